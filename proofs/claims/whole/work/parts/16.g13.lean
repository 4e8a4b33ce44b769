def fX4_nextCaller_l20 (F : Nat) (M0 : sp_Mem) (o0 : Nat) (kx : Int32 → Int32 → Int32 → Option Int32) : Nat → Int32 → Int32 → Int32 → Int32 → Int32 → Int32 → Option Int32
  | 0, _, _, _, _, _, _ => none
  | n + 1, a1, a2, a3, a4, a5, a6 =>
  if (sp_I M0 o0 8) ≤ a6 then (kx a1 a4 a5) else (if a3 ≤ 0 then (kx a1 a4 a5) else ((sp_ix 5 a6).bind fun j5 => sp_do ((fJ6_bitCount_0f7a4 (a2 &&& (sp_I M0 (o0 + 7) j5)))) fun u6 => sp_do ((sp_max u6 (a3 - u6))) fun u7 => if a5 ≤ u7 then ((fX4_nextCaller_l20 F M0 o0 kx n) a1 a2 a3 a4 a5 (a6 + 1)) else ((fX4_nextCaller_l20 F M0 o0 kx n) a1 a2 a3 a6 u7 (a6 + 1))))
def fX4_nextCaller_j79 (F : Nat) (M0 : sp_Mem) (o0 : Nat) (a1 : Int32) (a4 : Int32) (a5 : Int32) : Option Int32 :=
  some (if a4 = (-1) then a4 else (if a1 = 0 then a4 else a5))
def fX4_nextCaller (F : Nat) (M0 : sp_Mem) (o0 : Nat) (a1 : Int32) : Option Int32 :=
  (fX4_possibleSparks F M0 o0).bind fun v1 => sp_do ((fJ6_bitCount_0f7a4 v1)) fun u2 => fX4_nextCaller_l20 F M0 o0 (fun b10 b11 b12 => fX4_nextCaller_j79 F M0 o0 b10 b11 b12) F a1 v1 u2 (-1) 7 0
set_option maxRecDepth 100000 in
set_option maxHeartbeats 4000000 in
theorem tX4_nextCaller_l20 {g : sp_G} {Ω : sp_Mem → Prop} {Q : sp_Qt} {F : Nat} {M0 : sp_Mem} {p : Int32} (hG : sp_Ok Ω) {o0 : Nat} (ho0 : sp_room o0)  {kx : Int32 → Int32 → Int32 → Option Int32} (hQ : Q (some (.int p)) M0) (hx : ∀ (a1 : Int32) (a4 : Int32) (a5 : Int32), kx a1 a4 a5 = some p → sp_Wp g Ω mX4_nextCaller 0 0 79 [none, some (.int a1), none, none, some (.int a4), some (.int a5), none, none, none] [] M0 Q) : ∀ (n : Nat) (a1 : Int32) (a2 : Int32) (a3 : Int32) (a4 : Int32) (a5 : Int32) (a6 : Int32), fX4_nextCaller_l20 F M0 o0 kx n a1 a2 a3 a4 a5 a6 = some p → sp_Wp g Ω mX4_nextCaller 0 0 20 [some (.ref o0), some (.int a1), some (.int a2), some (.int a3), some (.int a4), some (.int a5), some (.int a6), none, none] [] M0 Q := by
  intro n
  induction n with
  | zero =>
    intro a1 a2 a3 a4 a5 a6 h
    rw [fX4_nextCaller_l20] at h
    cases h
  | succ n ih =>
    intro a1 a2 a3 a4 a5 a6 h
    rw [fX4_nextCaller_l20] at h
    refine sp_iload dX4_nextCaller_20 rfl ?_
    refine sp_aload_n dX4_nextCaller_22 rfl rfl ?_
    refine sp_use (fun ho => ?_)
    have hs := hG.1 _ ho
    refine sp_getI (RX5, TX5, 16) dX4_nextCaller_23 clX5 (j := 8) (by decide) tw_199 (rmI hs ho0) (Or.inl rfl) ?_
    refine sp_icmp_ge (tgt := 79) dX4_nextCaller_26 (by decide) (fun hc3 => ?_) (fun hc3 => ?_)
    · have h := (if_pos hc3).symm.trans h
      refine sp_weak [false, true, false, false, true, true, false, false, false] [none, some (.int a1), none, none, some (.int a4), some (.int a5), none, none, none] rfl ?_
      exact hx _ _ _ h
    · have h := (if_neg hc3).symm.trans h
      refine sp_iload_n dX4_nextCaller_29 rfl rfl ?_
      refine sp_if_le (tgt := 79) dX4_nextCaller_30 (by decide) (fun hc4 => ?_) (fun hc4 => ?_)
      · have h := (if_pos hc4).symm.trans h
        refine sp_weak [false, true, false, false, true, true, false, false, false] [none, some (.int a1), none, none, some (.int a4), some (.int a5), none, none, none] rfl ?_
        exact hx _ _ _ h
      · have h := (if_neg hc4).symm.trans h
        refine sp_iload_n dX4_nextCaller_33 rfl rfl ?_
        refine sp_aload_n dX4_nextCaller_34 rfl rfl ?_
        refine sp_getR (RX5, TX5, 16) dX4_nextCaller_35 clX5 (j := 7) (by decide) tw_196 (rmI hs ho0) (Or.inr ⟨_, rfl⟩) (rmP_7 hs ho0) ?_
        refine sp_iload dX4_nextCaller_38 rfl ?_
        obtain ⟨j5, hj5, h⟩ := Option.bind_eq_some_iff.mp h
        refine sp_iald2 (j := j5) dX4_nextCaller_40 (rmA_7 hs ho0) (rmN_7 hs ho0) hj5 ?_
        refine sp_iand dX4_nextCaller_41 ?_
        refine sp_cS (M1 := M0) (r := some (.int (fJ6_bitCount_0f7a4 (a2 &&& (sp_I M0 (o0 + 7) j5))))) (st := []) [.int (a2 &&& (sp_I M0 (o0 + 7) j5))] [.int (a2 &&& (sp_I M0 (o0 + 7) j5))] [.int (fJ6_bitCount_0f7a4 (a2 &&& (sp_I M0 (o0 + 7) j5)))] dX4_nextCaller_42 okJ6_bitCount_0f7a4 tw_1053 tw_1054 (by decide) (by decide) rfl (Nat.le_of_ble_eq_true rfl) rfl rfl (fun Q hQ => tJ6_bitCount_0f7a4 hG rfl hQ) ?_
        obtain ⟨u6, hu6, h⟩ := sp_do_e h
        refine sp_topi hu6 ?_
        refine sp_istore [some (.ref o0), some (.int a1), some (.int a2), some (.int a3), some (.int a4), some (.int a5), some (.int a6), some (.int u6), none] dX4_nextCaller_45 (by decide) rfl ?_
        refine sp_iload dX4_nextCaller_47 rfl ?_
        refine sp_iload_n dX4_nextCaller_49 rfl rfl ?_
        refine sp_iload dX4_nextCaller_50 rfl ?_
        refine sp_isub dX4_nextCaller_52 ?_
        refine sp_mmax dX4_nextCaller_53 tw_1059 (by decide) (Nat.le_of_ble_eq_true rfl) ?_
        obtain ⟨u7, hu7, h⟩ := sp_do_e h
        refine sp_topi hu7 ?_
        refine sp_istore [some (.ref o0), some (.int a1), some (.int a2), some (.int a3), some (.int a4), some (.int a5), some (.int a6), some (.int u6), some (.int u7)] dX4_nextCaller_56 (by decide) rfl ?_
        refine sp_iload dX4_nextCaller_58 rfl ?_
        refine sp_iload dX4_nextCaller_60 rfl ?_
        refine sp_icmp_ge (tgt := 73) dX4_nextCaller_62 (by decide) (fun hc8 => ?_) (fun hc8 => ?_)
        · have h := (if_pos hc8).symm.trans h
          refine sp_iinc (v := (a6 + 1)) [some (.ref o0), some (.int a1), some (.int a2), some (.int a3), some (.int a4), some (.int a5), some (.int (a6 + 1)), some (.int u6), some (.int u7)] dX4_nextCaller_73 rfl rfl (by decide) rfl ?_
          refine sp_goto (tgt := 20) dX4_nextCaller_76 (by decide) ?_
          refine sp_weak [true, true, true, true, true, true, true, false, false] [some (.ref o0), some (.int a1), some (.int a2), some (.int a3), some (.int a4), some (.int a5), some (.int (a6 + 1)), none, none] rfl ?_
          exact ih _ _ _ _ _ _ h
        · have h := (if_neg hc8).symm.trans h
          refine sp_iload dX4_nextCaller_65 rfl ?_
          refine sp_istore [some (.ref o0), some (.int a1), some (.int a2), some (.int a3), some (.int a4), some (.int u7), some (.int a6), some (.int u6), some (.int u7)] dX4_nextCaller_67 (by decide) rfl ?_
          refine sp_iload dX4_nextCaller_69 rfl ?_
          refine sp_istore [some (.ref o0), some (.int a1), some (.int a2), some (.int a3), some (.int a6), some (.int u7), some (.int a6), some (.int u6), some (.int u7)] dX4_nextCaller_71 (by decide) rfl ?_
          refine sp_iinc (v := (a6 + 1)) [some (.ref o0), some (.int a1), some (.int a2), some (.int a3), some (.int a6), some (.int u7), some (.int (a6 + 1)), some (.int u6), some (.int u7)] dX4_nextCaller_73 rfl rfl (by decide) rfl ?_
          refine sp_goto (tgt := 20) dX4_nextCaller_76 (by decide) ?_
          refine sp_weak [true, true, true, true, true, true, true, false, false] [some (.ref o0), some (.int a1), some (.int a2), some (.int a3), some (.int a6), some (.int u7), some (.int (a6 + 1)), none, none] rfl ?_
          exact ih _ _ _ _ _ _ h
set_option maxRecDepth 100000 in
set_option maxHeartbeats 4000000 in
theorem tX4_nextCaller_j79 {g : sp_G} {Ω : sp_Mem → Prop} {Q : sp_Qt} {F : Nat} {M0 : sp_Mem} {p : Int32} (hG : sp_Ok Ω) {o0 : Nat} (ho0 : sp_room o0)  (hQ : Q (some (.int p)) M0) (a1 : Int32) (a4 : Int32) (a5 : Int32) (h : fX4_nextCaller_j79 F M0 o0 a1 a4 a5 = some p) : sp_Wp g Ω mX4_nextCaller 0 0 79 [none, some (.int a1), none, none, some (.int a4), some (.int a5), none, none, none] [] M0 Q := by
  unfold fX4_nextCaller_j79 at h
  refine sp_iload dX4_nextCaller_79 rfl ?_
  refine sp_iconst (v := (-1)) dX4_nextCaller_81 (by decide) ?_
  suffices hj : sp_Wp g Ω mX4_nextCaller 0 0 96 [none, none, none, none, none, none, none, none, none] [.int (if a4 = (-1) then a4 else (if a1 = 0 then a4 else a5))] M0 Q by
    refine sp_icmp_eq (tgt := 89) dX4_nextCaller_82 (by decide) (fun hc13 => ?_) (fun hc13 => ?_)
    · refine sp_iload dX4_nextCaller_89 rfl ?_
      refine sp_goto (tgt := 96) dX4_nextCaller_91 (by decide) ?_
      refine sp_weak [false, false, false, false, false, false, false, false, false] [none, none, none, none, none, none, none, none, none] rfl ?_
      simp only [if_pos hc13] at hj
      exact hj
    · refine sp_iload_n dX4_nextCaller_85 rfl rfl ?_
      refine sp_if_ne (tgt := 94) dX4_nextCaller_86 (by decide) (fun hc14 => ?_) (fun hc14 => ?_)
      · refine sp_iload dX4_nextCaller_94 rfl ?_
        refine sp_weak [false, false, false, false, false, false, false, false, false] [none, none, none, none, none, none, none, none, none] rfl ?_
        simp only [if_neg hc13, if_neg hc14] at hj
        exact hj
      · refine sp_iload dX4_nextCaller_89 rfl ?_
        refine sp_goto (tgt := 96) dX4_nextCaller_91 (by decide) ?_
        refine sp_weak [false, false, false, false, false, false, false, false, false] [none, none, none, none, none, none, none, none, none] rfl ?_
        simp only [if_neg hc13, if_pos hc14] at hj
        exact hj
  cases h
  exact sp_iret dX4_nextCaller_96 (ty := .int) rfl rfl (fun _ => hQ)
set_option maxRecDepth 100000 in
set_option maxHeartbeats 4000000 in
theorem tX4_nextCaller {g : sp_G} {Ω : sp_Mem → Prop} {Q : sp_Qt} {F : Nat} {M0 : sp_Mem} {p : Int32} (hG : sp_Ok Ω) {o0 : Nat} (ho0 : sp_room o0) {a1 : Int32} (h : fX4_nextCaller F M0 o0 a1 = some p) (hQ : Q (some (.int p)) M0) : sp_Mt g Ω mX4_nextCaller 0 0 [.ref o0, .int a1] M0 Q := by
  unfold fX4_nextCaller at h
  refine sp_Mt.of [some (.ref o0), some (.int a1), none, none, none, none, none, none, none] (by decide) (by simp [sp_ent, Value.category]) rfl ?_
  refine sp_aload_n dX4_nextCaller_0 rfl rfl ?_
  refine sp_use (fun ho => ?_)
  have hs := hG.1 _ ho
  obtain ⟨v1, hv1, h⟩ := Option.bind_eq_some_iff.mp h
  refine sp_cS (M1 := M0) (r := some (.int v1)) (st := []) [.ref o0] [.ref o0] [.int v1] dX4_nextCaller_1 okX4_possibleSparks tw_1052 tw_1042 (by decide) (by decide) rfl (Nat.le_of_ble_eq_true rfl) rfl rfl (fun Q hQ => tX4_possibleSparks hG ho0 hv1 hQ) ?_
  refine sp_istore_n [some (.ref o0), some (.int a1), some (.int v1), none, none, none, none, none, none] dX4_nextCaller_4 rfl (by decide) rfl ?_
  refine sp_iload_n dX4_nextCaller_5 rfl rfl ?_
  refine sp_cS (M1 := M0) (r := some (.int (fJ6_bitCount_0f7a4 v1))) (st := []) [.int v1] [.int v1] [.int (fJ6_bitCount_0f7a4 v1)] dX4_nextCaller_6 okJ6_bitCount_0f7a4 tw_1053 tw_1054 (by decide) (by decide) rfl (Nat.le_of_ble_eq_true rfl) rfl rfl (fun Q hQ => tJ6_bitCount_0f7a4 hG rfl hQ) ?_
  obtain ⟨u2, hu2, h⟩ := sp_do_e h
  refine sp_topi hu2 ?_
  refine sp_istore_n [some (.ref o0), some (.int a1), some (.int v1), some (.int u2), none, none, none, none, none] dX4_nextCaller_9 rfl (by decide) rfl ?_
  refine sp_iconst (v := (-1)) dX4_nextCaller_10 (by decide) ?_
  refine sp_istore [some (.ref o0), some (.int a1), some (.int v1), some (.int u2), some (.int (-1)), none, none, none, none] dX4_nextCaller_11 (by decide) rfl ?_
  refine sp_bipush (v := 7) dX4_nextCaller_13 (by decide) ?_
  refine sp_istore [some (.ref o0), some (.int a1), some (.int v1), some (.int u2), some (.int (-1)), some (.int 7), none, none, none] dX4_nextCaller_15 (by decide) rfl ?_
  refine sp_iconst (v := 0) dX4_nextCaller_17 (by decide) ?_
  refine sp_istore [some (.ref o0), some (.int a1), some (.int v1), some (.int u2), some (.int (-1)), some (.int 7), some (.int 0), none, none] dX4_nextCaller_18 (by decide) rfl ?_
  refine sp_weak [true, true, true, true, true, true, true, false, false] [some (.ref o0), some (.int a1), some (.int v1), some (.int u2), some (.int (-1)), some (.int 7), some (.int 0), none, none] rfl ?_
  refine tX4_nextCaller_l20 hG ho0 hQ (fun b10 b11 b12 h => ?_) F _ _ _ _ _ _ h
  refine sp_weak [false, true, false, false, true, true, false, false, false] [none, some (.int b10), none, none, some (.int b11), some (.int b12), none, none, none] rfl ?_
  exact tX4_nextCaller_j79 hG ho0 hQ _ _ _ h
def fX4_areAlike (a0 : Int32) (a1 : Int32) : Option Int32 :=
  if (a0 / 10) = (a1 / 10) then (some 1) else (some (if (a0 - a0 / 10 * 10) = (a1 - a1 / 10 * 10) then 1 else 0))
set_option maxRecDepth 100000 in
set_option maxHeartbeats 4000000 in
theorem tX4_areAlike {g : sp_G} {Ω : sp_Mem → Prop} {Q : sp_Qt} {M0 : sp_Mem} {p : Int32} (hG : sp_Ok Ω) {a0 : Int32} {a1 : Int32} (h : fX4_areAlike a0 a1 = some p) (hQ : Q (some (.int p)) M0) : sp_Mt g Ω mX4_areAlike 0 0 [.int a0, .int a1] M0 Q := by
  unfold fX4_areAlike at h
  refine sp_Mt.of [some (.int a0), some (.int a1)] (by decide) (by simp [sp_ent, Value.category]) rfl ?_
  refine sp_iload_n dX4_areAlike_0 rfl rfl ?_
  refine sp_bipush (v := 10) dX4_areAlike_1 (by decide) ?_
  refine sp_idiv dX4_areAlike_3 (by decide) ?_
  refine sp_iload_n dX4_areAlike_4 rfl rfl ?_
  refine sp_bipush (v := 10) dX4_areAlike_5 (by decide) ?_
  refine sp_idiv dX4_areAlike_7 (by decide) ?_
  refine sp_icmp_eq (tgt := 22) dX4_areAlike_8 (by decide) (fun hc1 => ?_) (fun hc1 => ?_)
  · have h := (if_pos hc1).symm.trans h
    refine sp_iconst (v := 1) dX4_areAlike_22 (by decide) ?_
    refine sp_goto (tgt := 27) dX4_areAlike_23 (by decide) ?_
    cases h
    exact sp_iret dX4_areAlike_27 (ty := .boolean) rfl (sp_nz (Or.inr rfl)) (fun _ => hQ)
  · have h := (if_neg hc1).symm.trans h
    refine sp_iload_n dX4_areAlike_11 rfl rfl ?_
    refine sp_bipush (v := 10) dX4_areAlike_12 (by decide) ?_
    refine sp_irem dX4_areAlike_14 (by decide) ?_
    refine sp_iload_n dX4_areAlike_15 rfl rfl ?_
    refine sp_bipush (v := 10) dX4_areAlike_16 (by decide) ?_
    refine sp_irem dX4_areAlike_18 (by decide) ?_
    suffices hj : sp_Wp g Ω mX4_areAlike 0 0 27 [none, none] [.int (if (a0 - a0 / 10 * 10) = (a1 - a1 / 10 * 10) then 1 else 0)] M0 Q by
      refine sp_icmp_ne (tgt := 26) dX4_areAlike_19 (by decide) (fun hc2 => ?_) (fun hc2 => ?_)
      · refine sp_iconst (v := 0) dX4_areAlike_26 (by decide) ?_
        refine sp_weak [false, false] [none, none] rfl ?_
        simp only [if_neg hc2] at hj
        exact hj
      · refine sp_iconst (v := 1) dX4_areAlike_22 (by decide) ?_
        refine sp_goto (tgt := 27) dX4_areAlike_23 (by decide) ?_
        refine sp_weak [false, false] [none, none] rfl ?_
        simp only [if_pos hc2] at hj
        exact hj
    cases h
    exact sp_iret dX4_areAlike_27 (ty := .boolean) rfl (sp_nz (by repeat (first | exact Or.inl rfl | exact Or.inr rfl | split))) (fun _ => hQ)
def fX4_alikeTwo_l17 (F : Nat) (M0 : sp_Mem) (o0 : Nat) (kx : Int32 → Int32 → Int32 → Option Int32) : Nat → Int32 → Int32 → Int32 → Int32 → Option Int32
  | 0, _, _, _, _ => none
  | n + 1, a1, a2, a3, a4 =>
  if (sp_I M0 o0 4) ≤ a4 then (kx a1 a2 a3) else ((sp_ix 6 a3).bind fun j3 => (sp_ix 6 a4).bind fun j4 => (fX4_areAlike (sp_I M0 (o0 + 4) j3) (sp_I M0 (o0 + 4) j4)).bind fun v5 => if v5 = 0 then ((fX4_alikeTwo_l17 F M0 o0 kx n) a1 a2 a3 (a4 + 1)) else (if a2 = a1 then (some ((a3 * 10) + a4)) else ((fX4_alikeTwo_l17 F M0 o0 kx n) a1 (a2 + 1) a3 (a4 + 1))))
def fX4_alikeTwo_l4 (F : Nat) (M0 : sp_Mem) (o0 : Nat) (kx : Int32 → Int32 → Option Int32) : Nat → Int32 → Int32 → Int32 → Option Int32
  | 0, _, _, _ => none
  | n + 1, a1, a2, a3 =>
  if (sp_I M0 o0 4) ≤ a3 then (kx a1 a2) else (fX4_alikeTwo_l17 F M0 o0 (fun b9 b10 b11 => (fX4_alikeTwo_l4 F M0 o0 kx n) b9 b10 (b11 + 1)) F a1 a2 a3 (a3 + 1))
def fX4_alikeTwo (F : Nat) (M0 : sp_Mem) (o0 : Nat) (a1 : Int32) : Option Int32 :=
  fX4_alikeTwo_l4 F M0 o0 (fun b13 b14 => some (if b13 = (-1) then b14 else (-1))) F a1 0 0
set_option maxRecDepth 100000 in
set_option maxHeartbeats 4000000 in
theorem tX4_alikeTwo_l17 {g : sp_G} {Ω : sp_Mem → Prop} {Q : sp_Qt} {F : Nat} {M0 : sp_Mem} {p : Int32} (hG : sp_Ok Ω) {o0 : Nat} (ho0 : sp_room o0)  {kx : Int32 → Int32 → Int32 → Option Int32} (hQ : Q (some (.int p)) M0) (hx : ∀ (a1 : Int32) (a2 : Int32) (a3 : Int32), kx a1 a2 a3 = some p → sp_Wp g Ω mX4_alikeTwo 0 0 67 [some (.ref o0), some (.int a1), some (.int a2), some (.int a3), none] [] M0 Q) : ∀ (n : Nat) (a1 : Int32) (a2 : Int32) (a3 : Int32) (a4 : Int32), fX4_alikeTwo_l17 F M0 o0 kx n a1 a2 a3 a4 = some p → sp_Wp g Ω mX4_alikeTwo 0 0 17 [some (.ref o0), some (.int a1), some (.int a2), some (.int a3), some (.int a4)] [] M0 Q := by
  intro n
  induction n with
  | zero =>
    intro a1 a2 a3 a4 h
    rw [fX4_alikeTwo_l17] at h
    cases h
  | succ n ih =>
    intro a1 a2 a3 a4 h
    rw [fX4_alikeTwo_l17] at h
    refine sp_iload dX4_alikeTwo_17 rfl ?_
    refine sp_aload_n dX4_alikeTwo_19 rfl rfl ?_
    refine sp_use (fun ho => ?_)
    have hs := hG.1 _ ho
    refine sp_getI (RX5, TX5, 16) dX4_alikeTwo_20 clX5 (j := 4) (by decide) tw_183 (rmI hs ho0) (Or.inl rfl) ?_
    refine sp_icmp_ge (tgt := 67) dX4_alikeTwo_23 (by decide) (fun hc2 => ?_) (fun hc2 => ?_)
    · have h := (if_pos hc2).symm.trans h
      refine sp_weak [true, true, true, true, false] [some (.ref o0), some (.int a1), some (.int a2), some (.int a3), none] rfl ?_
      exact hx _ _ _ h
    · have h := (if_neg hc2).symm.trans h
      refine sp_aload_n dX4_alikeTwo_26 rfl rfl ?_
      refine sp_getR (RX5, TX5, 16) dX4_alikeTwo_27 clX5 (j := 3) (by decide) tw_181 (rmI hs ho0) (Or.inr ⟨_, rfl⟩) (rmP_3 hs ho0) ?_
      refine sp_iload_n dX4_alikeTwo_30 rfl rfl ?_
      obtain ⟨j3, hj3, h⟩ := Option.bind_eq_some_iff.mp h
      refine sp_iald2 (j := j3) dX4_alikeTwo_31 (rmA_4 hs ho0) (rmN_4 hs ho0) hj3 ?_
      refine sp_aload_n dX4_alikeTwo_32 rfl rfl ?_
      refine sp_getR (RX5, TX5, 16) dX4_alikeTwo_33 clX5 (j := 3) (by decide) tw_181 (rmI hs ho0) (Or.inr ⟨_, rfl⟩) (rmP_3 hs ho0) ?_
      refine sp_iload dX4_alikeTwo_36 rfl ?_
      obtain ⟨j4, hj4, h⟩ := Option.bind_eq_some_iff.mp h
      refine sp_iald2 (j := j4) dX4_alikeTwo_38 (rmA_4 hs ho0) (rmN_4 hs ho0) hj4 ?_
      obtain ⟨v5, hv5, h⟩ := Option.bind_eq_some_iff.mp h
      refine sp_cS (M1 := M0) (r := some (.int v5)) (st := []) [.int (sp_I M0 (o0 + 4) j3), .int (sp_I M0 (o0 + 4) j4)] [.int (sp_I M0 (o0 + 4) j4), .int (sp_I M0 (o0 + 4) j3)] [.int v5] dX4_alikeTwo_39 okX4_areAlike tw_1067 tw_1068 (by decide) (by decide) rfl (Nat.le_of_ble_eq_true rfl) rfl rfl (fun Q hQ => tX4_areAlike hG hv5 hQ) ?_
      refine sp_if_eq (tgt := 61) dX4_alikeTwo_42 (by decide) (fun hc6 => ?_) (fun hc6 => ?_)
      · have h := (if_pos hc6).symm.trans h
        refine sp_iinc (v := (a4 + 1)) [some (.ref o0), some (.int a1), some (.int a2), some (.int a3), some (.int (a4 + 1))] dX4_alikeTwo_61 rfl rfl (by decide) rfl ?_
        refine sp_goto (tgt := 17) dX4_alikeTwo_64 (by decide) ?_
        refine sp_weak [true, true, true, true, true] [some (.ref o0), some (.int a1), some (.int a2), some (.int a3), some (.int (a4 + 1))] rfl ?_
        exact ih _ _ _ _ h
      · have h := (if_neg hc6).symm.trans h
        refine sp_iload_n dX4_alikeTwo_45 rfl rfl ?_
        refine sp_iload_n dX4_alikeTwo_46 rfl rfl ?_
        refine sp_icmp_ne (tgt := 58) dX4_alikeTwo_47 (by decide) (fun hc7 => ?_) (fun hc7 => ?_)
        · have h := (if_neg hc7).symm.trans h
          refine sp_iinc (v := (a2 + 1)) [some (.ref o0), some (.int a1), some (.int (a2 + 1)), some (.int a3), some (.int a4)] dX4_alikeTwo_58 rfl rfl (by decide) rfl ?_
          refine sp_iinc (v := (a4 + 1)) [some (.ref o0), some (.int a1), some (.int (a2 + 1)), some (.int a3), some (.int (a4 + 1))] dX4_alikeTwo_61 rfl rfl (by decide) rfl ?_
          refine sp_goto (tgt := 17) dX4_alikeTwo_64 (by decide) ?_
          refine sp_weak [true, true, true, true, true] [some (.ref o0), some (.int a1), some (.int (a2 + 1)), some (.int a3), some (.int (a4 + 1))] rfl ?_
          exact ih _ _ _ _ h
        · have h := (if_pos hc7).symm.trans h
          refine sp_iload_n dX4_alikeTwo_50 rfl rfl ?_
          refine sp_bipush (v := 10) dX4_alikeTwo_51 (by decide) ?_
          refine sp_imul dX4_alikeTwo_53 ?_
          refine sp_iload dX4_alikeTwo_54 rfl ?_
          refine sp_iadd dX4_alikeTwo_56 ?_
          cases h
          exact sp_iret dX4_alikeTwo_57 (ty := .int) rfl rfl (fun _ => hQ)
set_option maxRecDepth 100000 in
set_option maxHeartbeats 4000000 in
theorem tX4_alikeTwo_l4 {g : sp_G} {Ω : sp_Mem → Prop} {Q : sp_Qt} {F : Nat} {M0 : sp_Mem} {p : Int32} (hG : sp_Ok Ω) {o0 : Nat} (ho0 : sp_room o0)  {kx : Int32 → Int32 → Option Int32} (hQ : Q (some (.int p)) M0) (hx : ∀ (a1 : Int32) (a2 : Int32), kx a1 a2 = some p → sp_Wp g Ω mX4_alikeTwo 0 0 73 [none, some (.int a1), some (.int a2), none, none] [] M0 Q) : ∀ (n : Nat) (a1 : Int32) (a2 : Int32) (a3 : Int32), fX4_alikeTwo_l4 F M0 o0 kx n a1 a2 a3 = some p → sp_Wp g Ω mX4_alikeTwo 0 0 4 [some (.ref o0), some (.int a1), some (.int a2), some (.int a3), none] [] M0 Q := by
  intro n
  induction n with
  | zero =>
    intro a1 a2 a3 h
    rw [fX4_alikeTwo_l4] at h
    cases h
  | succ n ih =>
    intro a1 a2 a3 h
    rw [fX4_alikeTwo_l4] at h
    refine sp_iload_n dX4_alikeTwo_4 rfl rfl ?_
    refine sp_aload_n dX4_alikeTwo_5 rfl rfl ?_
    refine sp_use (fun ho => ?_)
    have hs := hG.1 _ ho
    refine sp_getI (RX5, TX5, 16) dX4_alikeTwo_6 clX5 (j := 4) (by decide) tw_183 (rmI hs ho0) (Or.inl rfl) ?_
    refine sp_icmp_ge (tgt := 73) dX4_alikeTwo_9 (by decide) (fun hc1 => ?_) (fun hc1 => ?_)
    · have h := (if_pos hc1).symm.trans h
      refine sp_weak [false, true, true, false, false] [none, some (.int a1), some (.int a2), none, none] rfl ?_
      exact hx _ _ h
    · have h := (if_neg hc1).symm.trans h
      refine sp_iload_n dX4_alikeTwo_12 rfl rfl ?_
      refine sp_iconst (v := 1) dX4_alikeTwo_13 (by decide) ?_
      refine sp_iadd dX4_alikeTwo_14 ?_
      refine sp_istore [some (.ref o0), some (.int a1), some (.int a2), some (.int a3), some (.int (a3 + 1))] dX4_alikeTwo_15 (by decide) rfl ?_
      refine sp_weak [true, true, true, true, true] [some (.ref o0), some (.int a1), some (.int a2), some (.int a3), some (.int (a3 + 1))] rfl ?_
      refine tX4_alikeTwo_l17 hG ho0 hQ (fun b9 b10 b11 h => ?_) F _ _ _ _ h
      refine sp_iinc (v := (b11 + 1)) [some (.ref o0), some (.int b9), some (.int b10), some (.int (b11 + 1)), none] dX4_alikeTwo_67 rfl rfl (by decide) rfl ?_
      refine sp_goto (tgt := 4) dX4_alikeTwo_70 (by decide) ?_
      refine sp_weak [true, true, true, true, false] [some (.ref o0), some (.int b9), some (.int b10), some (.int (b11 + 1)), none] rfl ?_
      exact ih _ _ _ h
set_option maxRecDepth 100000 in
set_option maxHeartbeats 4000000 in
theorem tX4_alikeTwo {g : sp_G} {Ω : sp_Mem → Prop} {Q : sp_Qt} {F : Nat} {M0 : sp_Mem} {p : Int32} (hG : sp_Ok Ω) {o0 : Nat} (ho0 : sp_room o0) {a1 : Int32} (h : fX4_alikeTwo F M0 o0 a1 = some p) (hQ : Q (some (.int p)) M0) : sp_Mt g Ω mX4_alikeTwo 0 0 [.ref o0, .int a1] M0 Q := by
  unfold fX4_alikeTwo at h
  refine sp_Mt.of [some (.ref o0), some (.int a1), none, none, none] (by decide) (by simp [sp_ent, Value.category]) rfl ?_
  refine sp_iconst (v := 0) dX4_alikeTwo_0 (by decide) ?_
  refine sp_istore_n [some (.ref o0), some (.int a1), some (.int 0), none, none] dX4_alikeTwo_1 rfl (by decide) rfl ?_
  refine sp_iconst (v := 0) dX4_alikeTwo_2 (by decide) ?_
  refine sp_istore_n [some (.ref o0), some (.int a1), some (.int 0), some (.int 0), none] dX4_alikeTwo_3 rfl (by decide) rfl ?_
  refine sp_weak [true, true, true, true, false] [some (.ref o0), some (.int a1), some (.int 0), some (.int 0), none] rfl ?_
  refine tX4_alikeTwo_l4 hG ho0 hQ (fun b13 b14 h => ?_) F _ _ _ h
  refine sp_iload_n dX4_alikeTwo_73 rfl rfl ?_
  refine sp_iconst (v := (-1)) dX4_alikeTwo_74 (by decide) ?_
  suffices hj : sp_Wp g Ω mX4_alikeTwo 0 0 83 [none, none, none, none, none] [.int (if b13 = (-1) then b14 else (-1))] M0 Q by
    refine sp_icmp_ne (tgt := 82) dX4_alikeTwo_75 (by decide) (fun hc15 => ?_) (fun hc15 => ?_)
    · refine sp_iconst (v := (-1)) dX4_alikeTwo_82 (by decide) ?_
      refine sp_weak [false, false, false, false, false] [none, none, none, none, none] rfl ?_
      simp only [if_neg hc15] at hj
      exact hj
    · refine sp_iload_n dX4_alikeTwo_78 rfl rfl ?_
      refine sp_goto (tgt := 83) dX4_alikeTwo_79 (by decide) ?_
      refine sp_weak [false, false, false, false, false] [none, none, none, none, none] rfl ?_
      simp only [if_pos hc15] at hj
      exact hj
  cases h
  exact sp_iret dX4_alikeTwo_83 (ty := .int) rfl rfl (fun _ => hQ)
def fX4_othersDiffer_j43 (F : Nat) (M0 : sp_Mem) (o0 : Nat) (kb : Int32 → Int32 → Int32 → Option Int32) (kx : Int32 → Int32 → Option Int32) (a1 : Int32) (a2 : Int32) (a3 : Int32) (s0 : Int32) : Option Int32 :=
  if s0 = 0 then (kb a1 a2 (a3 + 1)) else ((sp_ix 6 a2).bind fun j5 => (sp_ix 6 a3).bind fun j6 => (fX4_areAlike (sp_I M0 (o0 + 4) j5) (sp_I M0 (o0 + 4) j6)).bind fun v7 => if v7 = 0 then (kb a1 a2 (a3 + 1)) else (some 0))
def fX4_othersDiffer_j42 (F : Nat) (M0 : sp_Mem) (o0 : Nat) (kb : Int32 → Int32 → Int32 → Option Int32) (kx : Int32 → Int32 → Option Int32) (a1 : Int32) (a2 : Int32) (a3 : Int32) : Option Int32 :=
  fX4_othersDiffer_j43 F M0 o0 kb kx a1 a2 a3 0
def fX4_othersDiffer_l14 (F : Nat) (M0 : sp_Mem) (o0 : Nat) (kx : Int32 → Int32 → Option Int32) : Nat → Int32 → Int32 → Int32 → Option Int32
  | 0, _, _, _ => none
  | n + 1, a1, a2, a3 =>
  if (sp_I M0 o0 4) ≤ a3 then (kx a1 a2) else (if ((a1 >>> (a2 &&& 31)) &&& 1) = 0 then (fX4_othersDiffer_j43 F M0 o0 (fX4_othersDiffer_l14 F M0 o0 kx n) kx a1 a2 a3 (if ((a1 >>> (a3 &&& 31)) &&& 1) = 0 then 1 else 0)) else (fX4_othersDiffer_j42 F M0 o0 (fX4_othersDiffer_l14 F M0 o0 kx n) kx a1 a2 a3))
def fX4_othersDiffer_l2 (F : Nat) (M0 : sp_Mem) (o0 : Nat) (kx : Option Int32) : Nat → Int32 → Int32 → Option Int32
  | 0, _, _ => none
  | n + 1, a1, a2 =>
  if (sp_I M0 o0 4) ≤ a2 then (kx) else (fX4_othersDiffer_l14 F M0 o0 (fun b11 b12 => (fX4_othersDiffer_l2 F M0 o0 kx n) b11 (b12 + 1)) F a1 a2 (a2 + 1))
def fX4_othersDiffer (F : Nat) (M0 : sp_Mem) (o0 : Nat) (a1 : Int32) : Option Int32 :=
  fX4_othersDiffer_l2 F M0 o0 (some 1) F a1 0
set_option maxRecDepth 100000 in
set_option maxHeartbeats 4000000 in
theorem tX4_othersDiffer_j43 {g : sp_G} {Ω : sp_Mem → Prop} {Q : sp_Qt} {F : Nat} {M0 : sp_Mem} {p : Int32} (hG : sp_Ok Ω) {o0 : Nat} (ho0 : sp_room o0)  {kb : Int32 → Int32 → Int32 → Option Int32} {kx : Int32 → Int32 → Option Int32} (hQ : Q (some (.int p)) M0) (hb : ∀ (a1 : Int32) (a2 : Int32) (a3 : Int32), kb a1 a2 a3 = some p → sp_Wp g Ω mX4_othersDiffer 0 0 14 [some (.ref o0), some (.int a1), some (.int a2), some (.int a3), none] [] M0 Q) (hx : ∀ (a1 : Int32) (a2 : Int32), kx a1 a2 = some p → sp_Wp g Ω mX4_othersDiffer 0 0 76 [some (.ref o0), some (.int a1), some (.int a2), none, none] [] M0 Q) (a1 : Int32) (a2 : Int32) (a3 : Int32) (s0 : Int32) (h : fX4_othersDiffer_j43 F M0 o0 kb kx a1 a2 a3 s0 = some p) : sp_Wp g Ω mX4_othersDiffer 0 0 43 [some (.ref o0), some (.int a1), some (.int a2), some (.int a3), none] [.int s0] M0 Q := by
  unfold fX4_othersDiffer_j43 at h
  refine sp_istore [some (.ref o0), some (.int a1), some (.int a2), some (.int a3), some (.int s0)] dX4_othersDiffer_43 (by decide) rfl ?_
  refine sp_iload dX4_othersDiffer_45 rfl ?_
  refine sp_if_eq (tgt := 70) dX4_othersDiffer_47 (by decide) (fun hc4 => ?_) (fun hc4 => ?_)
  · have h := (if_pos hc4).symm.trans h
    refine sp_iinc (v := (a3 + 1)) [some (.ref o0), some (.int a1), some (.int a2), some (.int (a3 + 1)), some (.int s0)] dX4_othersDiffer_70 rfl rfl (by decide) rfl ?_
    refine sp_goto (tgt := 14) dX4_othersDiffer_73 (by decide) ?_
    refine sp_weak [true, true, true, true, false] [some (.ref o0), some (.int a1), some (.int a2), some (.int (a3 + 1)), none] rfl ?_
    exact hb _ _ _ h
  · have h := (if_neg hc4).symm.trans h
    refine sp_aload_n dX4_othersDiffer_50 rfl rfl ?_
    refine sp_use (fun ho => ?_)
    have hs := hG.1 _ ho
    refine sp_getR (RX5, TX5, 16) dX4_othersDiffer_51 clX5 (j := 3) (by decide) tw_181 (rmI hs ho0) (Or.inr ⟨_, rfl⟩) (rmP_3 hs ho0) ?_
    refine sp_iload_n dX4_othersDiffer_54 rfl rfl ?_
    obtain ⟨j5, hj5, h⟩ := Option.bind_eq_some_iff.mp h
    refine sp_iald2 (j := j5) dX4_othersDiffer_55 (rmA_4 hs ho0) (rmN_4 hs ho0) hj5 ?_
    refine sp_aload_n dX4_othersDiffer_56 rfl rfl ?_
    refine sp_getR (RX5, TX5, 16) dX4_othersDiffer_57 clX5 (j := 3) (by decide) tw_181 (rmI hs ho0) (Or.inr ⟨_, rfl⟩) (rmP_3 hs ho0) ?_
    refine sp_iload_n dX4_othersDiffer_60 rfl rfl ?_
    obtain ⟨j6, hj6, h⟩ := Option.bind_eq_some_iff.mp h
    refine sp_iald2 (j := j6) dX4_othersDiffer_61 (rmA_4 hs ho0) (rmN_4 hs ho0) hj6 ?_
    obtain ⟨v7, hv7, h⟩ := Option.bind_eq_some_iff.mp h
    refine sp_cS (M1 := M0) (r := some (.int v7)) (st := []) [.int (sp_I M0 (o0 + 4) j5), .int (sp_I M0 (o0 + 4) j6)] [.int (sp_I M0 (o0 + 4) j6), .int (sp_I M0 (o0 + 4) j5)] [.int v7] dX4_othersDiffer_62 okX4_areAlike tw_1067 tw_1068 (by decide) (by decide) rfl (Nat.le_of_ble_eq_true rfl) rfl rfl (fun Q hQ => tX4_areAlike hG hv7 hQ) ?_
    refine sp_if_eq (tgt := 70) dX4_othersDiffer_65 (by decide) (fun hc8 => ?_) (fun hc8 => ?_)
    · have h := (if_pos hc8).symm.trans h
      refine sp_iinc (v := (a3 + 1)) [some (.ref o0), some (.int a1), some (.int a2), some (.int (a3 + 1)), some (.int s0)] dX4_othersDiffer_70 rfl rfl (by decide) rfl ?_
      refine sp_goto (tgt := 14) dX4_othersDiffer_73 (by decide) ?_
      refine sp_weak [true, true, true, true, false] [some (.ref o0), some (.int a1), some (.int a2), some (.int (a3 + 1)), none] rfl ?_
      exact hb _ _ _ h
    · have h := (if_neg hc8).symm.trans h
      refine sp_iconst (v := 0) dX4_othersDiffer_68 (by decide) ?_
      cases h
      exact sp_iret dX4_othersDiffer_69 (ty := .boolean) rfl (sp_nz (Or.inl rfl)) (fun _ => hQ)
set_option maxRecDepth 100000 in
set_option maxHeartbeats 4000000 in
theorem tX4_othersDiffer_j42 {g : sp_G} {Ω : sp_Mem → Prop} {Q : sp_Qt} {F : Nat} {M0 : sp_Mem} {p : Int32} (hG : sp_Ok Ω) {o0 : Nat} (ho0 : sp_room o0)  {kb : Int32 → Int32 → Int32 → Option Int32} {kx : Int32 → Int32 → Option Int32} (hQ : Q (some (.int p)) M0) (hb : ∀ (a1 : Int32) (a2 : Int32) (a3 : Int32), kb a1 a2 a3 = some p → sp_Wp g Ω mX4_othersDiffer 0 0 14 [some (.ref o0), some (.int a1), some (.int a2), some (.int a3), none] [] M0 Q) (hx : ∀ (a1 : Int32) (a2 : Int32), kx a1 a2 = some p → sp_Wp g Ω mX4_othersDiffer 0 0 76 [some (.ref o0), some (.int a1), some (.int a2), none, none] [] M0 Q) (a1 : Int32) (a2 : Int32) (a3 : Int32) (h : fX4_othersDiffer_j42 F M0 o0 kb kx a1 a2 a3 = some p) : sp_Wp g Ω mX4_othersDiffer 0 0 42 [some (.ref o0), some (.int a1), some (.int a2), some (.int a3), none] [] M0 Q := by
  unfold fX4_othersDiffer_j42 at h
  refine sp_iconst (v := 0) dX4_othersDiffer_42 (by decide) ?_
  refine sp_weak [true, true, true, true, false] [some (.ref o0), some (.int a1), some (.int a2), some (.int a3), none] rfl ?_
  exact tX4_othersDiffer_j43 hG ho0 hQ hb hx _ _ _ _ h
set_option maxRecDepth 100000 in
set_option maxHeartbeats 4000000 in
theorem tX4_othersDiffer_l14 {g : sp_G} {Ω : sp_Mem → Prop} {Q : sp_Qt} {F : Nat} {M0 : sp_Mem} {p : Int32} (hG : sp_Ok Ω) {o0 : Nat} (ho0 : sp_room o0)  {kx : Int32 → Int32 → Option Int32} (hQ : Q (some (.int p)) M0) (hx : ∀ (a1 : Int32) (a2 : Int32), kx a1 a2 = some p → sp_Wp g Ω mX4_othersDiffer 0 0 76 [some (.ref o0), some (.int a1), some (.int a2), none, none] [] M0 Q) : ∀ (n : Nat) (a1 : Int32) (a2 : Int32) (a3 : Int32), fX4_othersDiffer_l14 F M0 o0 kx n a1 a2 a3 = some p → sp_Wp g Ω mX4_othersDiffer 0 0 14 [some (.ref o0), some (.int a1), some (.int a2), some (.int a3), none] [] M0 Q := by
  intro n
  induction n with
  | zero =>
    intro a1 a2 a3 h
    rw [fX4_othersDiffer_l14] at h
    cases h
  | succ n ih =>
    intro a1 a2 a3 h
    rw [fX4_othersDiffer_l14] at h
    refine sp_iload_n dX4_othersDiffer_14 rfl rfl ?_
    refine sp_aload_n dX4_othersDiffer_15 rfl rfl ?_
    refine sp_use (fun ho => ?_)
    have hs := hG.1 _ ho
    refine sp_getI (RX5, TX5, 16) dX4_othersDiffer_16 clX5 (j := 4) (by decide) tw_183 (rmI hs ho0) (Or.inl rfl) ?_
    refine sp_icmp_ge (tgt := 76) dX4_othersDiffer_19 (by decide) (fun hc2 => ?_) (fun hc2 => ?_)
    · have h := (if_pos hc2).symm.trans h
      refine sp_weak [true, true, true, false, false] [some (.ref o0), some (.int a1), some (.int a2), none, none] rfl ?_
      exact hx _ _ h
    · have h := (if_neg hc2).symm.trans h
      refine sp_iload_n dX4_othersDiffer_22 rfl rfl ?_
      refine sp_iload_n dX4_othersDiffer_23 rfl rfl ?_
      refine sp_ishr dX4_othersDiffer_24 ?_
      refine sp_iconst (v := 1) dX4_othersDiffer_25 (by decide) ?_
      refine sp_iand dX4_othersDiffer_26 ?_
      refine sp_if_ne (tgt := 42) dX4_othersDiffer_27 (by decide) (fun hc3 => ?_) (fun hc3 => ?_)
      · have h := (if_neg hc3).symm.trans h
        refine sp_weak [true, true, true, true, false] [some (.ref o0), some (.int a1), some (.int a2), some (.int a3), none] rfl ?_
        exact tX4_othersDiffer_j42 hG ho0 hQ ih hx _ _ _ h
      · have h := (if_pos hc3).symm.trans h
        refine sp_iload_n dX4_othersDiffer_30 rfl rfl ?_
        refine sp_iload_n dX4_othersDiffer_31 rfl rfl ?_
        refine sp_ishr dX4_othersDiffer_32 ?_
        refine sp_iconst (v := 1) dX4_othersDiffer_33 (by decide) ?_
        refine sp_iand dX4_othersDiffer_34 ?_
        suffices hj : sp_Wp g Ω mX4_othersDiffer 0 0 43 [some (.ref o0), some (.int a1), some (.int a2), some (.int a3), none] [.int (if ((a1 >>> (a3 &&& 31)) &&& 1) = 0 then 1 else 0)] M0 Q by
          refine sp_if_ne (tgt := 42) dX4_othersDiffer_35 (by decide) (fun hc9 => ?_) (fun hc9 => ?_)
          · refine sp_iconst (v := 0) dX4_othersDiffer_42 (by decide) ?_
            simp only [if_neg hc9] at hj
            exact hj
          · refine sp_iconst (v := 1) dX4_othersDiffer_38 (by decide) ?_
            refine sp_goto (tgt := 43) dX4_othersDiffer_39 (by decide) ?_
            simp only [if_pos hc9] at hj
            exact hj
        refine sp_weak [true, true, true, true, false] [some (.ref o0), some (.int a1), some (.int a2), some (.int a3), none] rfl ?_
        exact tX4_othersDiffer_j43 hG ho0 hQ ih hx _ _ _ _ h
set_option maxRecDepth 100000 in
set_option maxHeartbeats 4000000 in
theorem tX4_othersDiffer_l2 {g : sp_G} {Ω : sp_Mem → Prop} {Q : sp_Qt} {F : Nat} {M0 : sp_Mem} {p : Int32} (hG : sp_Ok Ω) {o0 : Nat} (ho0 : sp_room o0)  {kx : Option Int32} (hQ : Q (some (.int p)) M0) (hx : kx = some p → sp_Wp g Ω mX4_othersDiffer 0 0 82 [none, none, none, none, none] [] M0 Q) : ∀ (n : Nat) (a1 : Int32) (a2 : Int32), fX4_othersDiffer_l2 F M0 o0 kx n a1 a2 = some p → sp_Wp g Ω mX4_othersDiffer 0 0 2 [some (.ref o0), some (.int a1), some (.int a2), none, none] [] M0 Q := by
  intro n
  induction n with
  | zero =>
    intro a1 a2 h
    rw [fX4_othersDiffer_l2] at h
    cases h
  | succ n ih =>
    intro a1 a2 h
    rw [fX4_othersDiffer_l2] at h
    refine sp_iload_n dX4_othersDiffer_2 rfl rfl ?_
    refine sp_aload_n dX4_othersDiffer_3 rfl rfl ?_
    refine sp_use (fun ho => ?_)
    have hs := hG.1 _ ho
    refine sp_getI (RX5, TX5, 16) dX4_othersDiffer_4 clX5 (j := 4) (by decide) tw_183 (rmI hs ho0) (Or.inl rfl) ?_
    refine sp_icmp_ge (tgt := 82) dX4_othersDiffer_7 (by decide) (fun hc1 => ?_) (fun hc1 => ?_)
    · have h := (if_pos hc1).symm.trans h
      refine sp_weak [false, false, false, false, false] [none, none, none, none, none] rfl ?_
      exact hx h
    · have h := (if_neg hc1).symm.trans h
      refine sp_iload_n dX4_othersDiffer_10 rfl rfl ?_
      refine sp_iconst (v := 1) dX4_othersDiffer_11 (by decide) ?_
      refine sp_iadd dX4_othersDiffer_12 ?_
      refine sp_istore_n [some (.ref o0), some (.int a1), some (.int a2), some (.int (a2 + 1)), none] dX4_othersDiffer_13 rfl (by decide) rfl ?_
      refine sp_weak [true, true, true, true, false] [some (.ref o0), some (.int a1), some (.int a2), some (.int (a2 + 1)), none] rfl ?_
      refine tX4_othersDiffer_l14 hG ho0 hQ (fun b11 b12 h => ?_) F _ _ _ h
      refine sp_iinc (v := (b12 + 1)) [some (.ref o0), some (.int b11), some (.int (b12 + 1)), none, none] dX4_othersDiffer_76 rfl rfl (by decide) rfl ?_
      refine sp_goto (tgt := 2) dX4_othersDiffer_79 (by decide) ?_
      refine sp_weak [true, true, true, false, false] [some (.ref o0), some (.int b11), some (.int (b12 + 1)), none, none] rfl ?_
      exact ih _ _ h
set_option maxRecDepth 100000 in
set_option maxHeartbeats 4000000 in
theorem tX4_othersDiffer {g : sp_G} {Ω : sp_Mem → Prop} {Q : sp_Qt} {F : Nat} {M0 : sp_Mem} {p : Int32} (hG : sp_Ok Ω) {o0 : Nat} (ho0 : sp_room o0) {a1 : Int32} (h : fX4_othersDiffer F M0 o0 a1 = some p) (hQ : Q (some (.int p)) M0) : sp_Mt g Ω mX4_othersDiffer 0 0 [.ref o0, .int a1] M0 Q := by
  unfold fX4_othersDiffer at h
  refine sp_Mt.of [some (.ref o0), some (.int a1), none, none, none] (by decide) (by simp [sp_ent, Value.category]) rfl ?_
  refine sp_iconst (v := 0) dX4_othersDiffer_0 (by decide) ?_
  refine sp_istore_n [some (.ref o0), some (.int a1), some (.int 0), none, none] dX4_othersDiffer_1 rfl (by decide) rfl ?_
  refine sp_weak [true, true, true, false, false] [some (.ref o0), some (.int a1), some (.int 0), none, none] rfl ?_
  refine tX4_othersDiffer_l2 hG ho0 hQ (fun h => ?_) F _ _ h
  refine sp_iconst (v := 1) dX4_othersDiffer_82 (by decide) ?_
  cases h
  exact sp_iret dX4_othersDiffer_83 (ty := .boolean) rfl (sp_nz (Or.inr rfl)) (fun _ => hQ)
def fX4_namedAnew_l13 (F : Nat) (M0 : sp_Mem) (o0 : Nat) (kx : Int32 → Option Int32) : Nat → Int32 → Int32 → Option Int32
  | 0, _, _ => none
  | n + 1, a1, a2 =>
  if a2 < 0 then (kx a1) else (if (fJ6_bitCount_0f7a4 a1) < (fJ6_bitCount_0f7a4 a2) then ((fX4_namedAnew_l13 F M0 o0 kx n) a1 (a2 + (-1))) else ((fX4_othersDiffer F M0 o0 a2).bind fun v4 => if v4 = 0 then ((fX4_namedAnew_l13 F M0 o0 kx n) a1 (a2 + (-1))) else ((fX4_namedAnew_l13 F M0 o0 kx n) a2 (a2 + (-1)))))
def fX4_namedAnew (F : Nat) (M0 : sp_Mem) (o0 : Nat) : Option Int32 :=
  sp_do (((1 <<< ((sp_I M0 o0 4) &&& 31)) - 1)) fun u1 => fX4_namedAnew_l13 F M0 o0 (fun b7 => some b7) F u1 (u1 - 1)
set_option maxRecDepth 100000 in
set_option maxHeartbeats 4000000 in
theorem tX4_namedAnew_l13 {g : sp_G} {Ω : sp_Mem → Prop} {Q : sp_Qt} {F : Nat} {M0 : sp_Mem} {p : Int32} (hG : sp_Ok Ω) {o0 : Nat} (ho0 : sp_room o0)  {kx : Int32 → Option Int32} (hQ : Q (some (.int p)) M0) (hx : ∀ (a1 : Int32), kx a1 = some p → sp_Wp g Ω mX4_namedAnew 0 0 44 [none, some (.int a1), none] [] M0 Q) : ∀ (n : Nat) (a1 : Int32) (a2 : Int32), fX4_namedAnew_l13 F M0 o0 kx n a1 a2 = some p → sp_Wp g Ω mX4_namedAnew 0 0 13 [some (.ref o0), some (.int a1), some (.int a2)] [] M0 Q := by
  intro n
  induction n with
  | zero =>
    intro a1 a2 h
    rw [fX4_namedAnew_l13] at h
    cases h
  | succ n ih =>
    intro a1 a2 h
    rw [fX4_namedAnew_l13] at h
    refine sp_iload_n dX4_namedAnew_13 rfl rfl ?_
    refine sp_if_lt (tgt := 44) dX4_namedAnew_14 (by decide) (fun hc2 => ?_) (fun hc2 => ?_)
    · have h := (if_pos hc2).symm.trans h
      refine sp_weak [false, true, false] [none, some (.int a1), none] rfl ?_
      exact hx _ h
    · have h := (if_neg hc2).symm.trans h
      refine sp_iload_n dX4_namedAnew_17 rfl rfl ?_
      refine sp_use (fun ho => ?_)
      have hs := hG.1 _ ho
      refine sp_cS (M1 := M0) (r := some (.int (fJ6_bitCount_0f7a4 a2))) (st := []) [.int a2] [.int a2] [.int (fJ6_bitCount_0f7a4 a2)] dX4_namedAnew_18 okJ6_bitCount_0f7a4 tw_1053 tw_1054 (by decide) (by decide) rfl (Nat.le_of_ble_eq_true rfl) rfl rfl (fun Q hQ => tJ6_bitCount_0f7a4 hG rfl hQ) ?_
      refine sp_iload_n dX4_namedAnew_21 rfl rfl ?_
      refine sp_cS (M1 := M0) (r := some (.int (fJ6_bitCount_0f7a4 a1))) (st := [.int (fJ6_bitCount_0f7a4 a2)]) [.int a1] [.int a1, .int (fJ6_bitCount_0f7a4 a2)] [.int (fJ6_bitCount_0f7a4 a1), .int (fJ6_bitCount_0f7a4 a2)] dX4_namedAnew_22 okJ6_bitCount_0f7a4 tw_1053 tw_1054 (by decide) (by decide) rfl (Nat.le_of_ble_eq_true rfl) rfl rfl (fun Q hQ => tJ6_bitCount_0f7a4 hG rfl hQ) ?_
      refine sp_icmp_gt (tgt := 38) dX4_namedAnew_25 (by decide) (fun hc3 => ?_) (fun hc3 => ?_)
      · have h := (if_pos hc3).symm.trans h
        refine sp_iinc (v := (a2 + (-1))) [some (.ref o0), some (.int a1), some (.int (a2 + (-1)))] dX4_namedAnew_38 rfl rfl (by decide) rfl ?_
        refine sp_goto (tgt := 13) dX4_namedAnew_41 (by decide) ?_
        refine sp_weak [true, true, true] [some (.ref o0), some (.int a1), some (.int (a2 + (-1)))] rfl ?_
        exact ih _ _ h
      · have h := (if_neg hc3).symm.trans h
        refine sp_aload_n dX4_namedAnew_28 rfl rfl ?_
        refine sp_iload_n dX4_namedAnew_29 rfl rfl ?_
        obtain ⟨v4, hv4, h⟩ := Option.bind_eq_some_iff.mp h
        refine sp_cS (M1 := M0) (r := some (.int v4)) (st := []) [.ref o0, .int a2] [.int a2, .ref o0] [.int v4] dX4_namedAnew_30 okX4_othersDiffer tw_1077 tw_1078 (by decide) (by decide) rfl (Nat.le_of_ble_eq_true rfl) rfl rfl (fun Q hQ => tX4_othersDiffer hG ho0 hv4 hQ) ?_
        refine sp_if_eq (tgt := 38) dX4_namedAnew_33 (by decide) (fun hc5 => ?_) (fun hc5 => ?_)
        · have h := (if_pos hc5).symm.trans h
          refine sp_iinc (v := (a2 + (-1))) [some (.ref o0), some (.int a1), some (.int (a2 + (-1)))] dX4_namedAnew_38 rfl rfl (by decide) rfl ?_
          refine sp_goto (tgt := 13) dX4_namedAnew_41 (by decide) ?_
          refine sp_weak [true, true, true] [some (.ref o0), some (.int a1), some (.int (a2 + (-1)))] rfl ?_
          exact ih _ _ h
        · have h := (if_neg hc5).symm.trans h
          refine sp_iload_n dX4_namedAnew_36 rfl rfl ?_
          refine sp_istore_n [some (.ref o0), some (.int a2), some (.int a2)] dX4_namedAnew_37 rfl (by decide) rfl ?_
          refine sp_iinc (v := (a2 + (-1))) [some (.ref o0), some (.int a2), some (.int (a2 + (-1)))] dX4_namedAnew_38 rfl rfl (by decide) rfl ?_
          refine sp_goto (tgt := 13) dX4_namedAnew_41 (by decide) ?_
          refine sp_weak [true, true, true] [some (.ref o0), some (.int a2), some (.int (a2 + (-1)))] rfl ?_
          exact ih _ _ h
set_option maxRecDepth 100000 in
set_option maxHeartbeats 4000000 in
theorem tX4_namedAnew {g : sp_G} {Ω : sp_Mem → Prop} {Q : sp_Qt} {F : Nat} {M0 : sp_Mem} {p : Int32} (hG : sp_Ok Ω) {o0 : Nat} (ho0 : sp_room o0) (h : fX4_namedAnew F M0 o0 = some p) (hQ : Q (some (.int p)) M0) : sp_Mt g Ω mX4_namedAnew 0 0 [.ref o0] M0 Q := by
  unfold fX4_namedAnew at h
  refine sp_Mt.of [some (.ref o0), none, none] (by decide) (by simp [sp_ent, Value.category]) rfl ?_
  refine sp_iconst (v := 1) dX4_namedAnew_0 (by decide) ?_
  refine sp_aload_n dX4_namedAnew_1 rfl rfl ?_
  refine sp_use (fun ho => ?_)
  have hs := hG.1 _ ho
  refine sp_getI (RX5, TX5, 16) dX4_namedAnew_2 clX5 (j := 4) (by decide) tw_183 (rmI hs ho0) (Or.inl rfl) ?_
  refine sp_ishl dX4_namedAnew_5 ?_
  refine sp_iconst (v := 1) dX4_namedAnew_6 (by decide) ?_
  refine sp_isub dX4_namedAnew_7 ?_
  obtain ⟨u1, hu1, h⟩ := sp_do_e h
  refine sp_topi hu1 ?_
  refine sp_istore_n [some (.ref o0), some (.int u1), none] dX4_namedAnew_8 rfl (by decide) rfl ?_
  refine sp_iload_n dX4_namedAnew_9 rfl rfl ?_
  refine sp_iconst (v := 1) dX4_namedAnew_10 (by decide) ?_
  refine sp_isub dX4_namedAnew_11 ?_
  refine sp_istore_n [some (.ref o0), some (.int u1), some (.int (u1 - 1))] dX4_namedAnew_12 rfl (by decide) rfl ?_
  refine sp_weak [true, true, true] [some (.ref o0), some (.int u1), some (.int (u1 - 1))] rfl ?_
  refine tX4_namedAnew_l13 hG ho0 hQ (fun b7 h => ?_) F _ _ h
  refine sp_iload_n dX4_namedAnew_44 rfl rfl ?_
  cases h
  exact sp_iret dX4_namedAnew_45 (ty := .int) rfl rfl (fun _ => hQ)
def fX5_knowers_l4 (F : Nat) (M0 : sp_Mem) (o0 : Nat) (kx : Int32 → Option Int32) : Nat → Int32 → Int32 → Int32 → Option Int32
  | 0, _, _, _ => none
  | n + 1, a1, a2, a3 =>
  if (sp_I M0 o0 8) ≤ a3 then (kx a2) else ((sp_ix 5 a3).bind fun j2 => sp_do ((a2 ||| ((((sp_I M0 (o0 + 7) j2) >>> (a1 &&& 31)) &&& 1) <<< (a3 &&& 31)))) fun u3 => (fX5_knowers_l4 F M0 o0 kx n) a1 u3 (a3 + 1))
def fX5_knowers (F : Nat) (M0 : sp_Mem) (o0 : Nat) (a1 : Int32) : Option Int32 :=
  fX5_knowers_l4 F M0 o0 (fun b5 => some b5) F a1 0 0
set_option maxRecDepth 100000 in
set_option maxHeartbeats 4000000 in
theorem tX5_knowers_l4 {g : sp_G} {Ω : sp_Mem → Prop} {Q : sp_Qt} {F : Nat} {M0 : sp_Mem} {p : Int32} (hG : sp_Ok Ω) {o0 : Nat} (ho0 : sp_room o0)  {kx : Int32 → Option Int32} (hQ : Q (some (.int p)) M0) (hx : ∀ (a2 : Int32), kx a2 = some p → sp_Wp g Ω mX5_knowers 0 0 33 [none, none, some (.int a2), none] [] M0 Q) : ∀ (n : Nat) (a1 : Int32) (a2 : Int32) (a3 : Int32), fX5_knowers_l4 F M0 o0 kx n a1 a2 a3 = some p → sp_Wp g Ω mX5_knowers 0 0 4 [some (.ref o0), some (.int a1), some (.int a2), some (.int a3)] [] M0 Q := by
  intro n
  induction n with
  | zero =>
    intro a1 a2 a3 h
    rw [fX5_knowers_l4] at h
    cases h
  | succ n ih =>
    intro a1 a2 a3 h
    rw [fX5_knowers_l4] at h
    refine sp_iload_n dX5_knowers_4 rfl rfl ?_
    refine sp_aload_n dX5_knowers_5 rfl rfl ?_
    refine sp_use (fun ho => ?_)
    have hs := hG.1 _ ho
    refine sp_getI (RX5, TX5, 16) dX5_knowers_6 clX5 (j := 8) (by decide) tw_200 (rmI hs ho0) (Or.inl rfl) ?_
    refine sp_icmp_ge (tgt := 33) dX5_knowers_9 (by decide) (fun hc1 => ?_) (fun hc1 => ?_)
    · have h := (if_pos hc1).symm.trans h
      refine sp_weak [false, false, true, false] [none, none, some (.int a2), none] rfl ?_
      exact hx _ h
    · have h := (if_neg hc1).symm.trans h
      refine sp_iload_n dX5_knowers_12 rfl rfl ?_
      refine sp_aload_n dX5_knowers_13 rfl rfl ?_
      refine sp_getR (RX5, TX5, 16) dX5_knowers_14 clX5 (j := 7) (by decide) tw_195 (rmI hs ho0) (Or.inr ⟨_, rfl⟩) (rmP_7 hs ho0) ?_
      refine sp_iload_n dX5_knowers_17 rfl rfl ?_
      obtain ⟨j2, hj2, h⟩ := Option.bind_eq_some_iff.mp h
      refine sp_iald2 (j := j2) dX5_knowers_18 (rmA_7 hs ho0) (rmN_7 hs ho0) hj2 ?_
      refine sp_iload_n dX5_knowers_19 rfl rfl ?_
      refine sp_ishr dX5_knowers_20 ?_
      refine sp_iconst (v := 1) dX5_knowers_21 (by decide) ?_
      refine sp_iand dX5_knowers_22 ?_
      refine sp_iload_n dX5_knowers_23 rfl rfl ?_
      refine sp_ishl dX5_knowers_24 ?_
      refine sp_ior dX5_knowers_25 ?_
      obtain ⟨u3, hu3, h⟩ := sp_do_e h
      refine sp_topi hu3 ?_
      refine sp_istore_n [some (.ref o0), some (.int a1), some (.int u3), some (.int a3)] dX5_knowers_26 rfl (by decide) rfl ?_
      refine sp_iinc (v := (a3 + 1)) [some (.ref o0), some (.int a1), some (.int u3), some (.int (a3 + 1))] dX5_knowers_27 rfl rfl (by decide) rfl ?_
      refine sp_goto (tgt := 4) dX5_knowers_30 (by decide) ?_
      refine sp_weak [true, true, true, true] [some (.ref o0), some (.int a1), some (.int u3), some (.int (a3 + 1))] rfl ?_
      exact ih _ _ _ h
set_option maxRecDepth 100000 in
set_option maxHeartbeats 4000000 in
theorem tX5_knowers {g : sp_G} {Ω : sp_Mem → Prop} {Q : sp_Qt} {F : Nat} {M0 : sp_Mem} {p : Int32} (hG : sp_Ok Ω) {o0 : Nat} (ho0 : sp_room o0) {a1 : Int32} (h : fX5_knowers F M0 o0 a1 = some p) (hQ : Q (some (.int p)) M0) : sp_Mt g Ω mX5_knowers 0 0 [.ref o0, .int a1] M0 Q := by
  unfold fX5_knowers at h
  refine sp_Mt.of [some (.ref o0), some (.int a1), none, none] (by decide) (by simp [sp_ent, Value.category]) rfl ?_
  refine sp_iconst (v := 0) dX5_knowers_0 (by decide) ?_
  refine sp_istore_n [some (.ref o0), some (.int a1), some (.int 0), none] dX5_knowers_1 rfl (by decide) rfl ?_
  refine sp_iconst (v := 0) dX5_knowers_2 (by decide) ?_
  refine sp_istore_n [some (.ref o0), some (.int a1), some (.int 0), some (.int 0)] dX5_knowers_3 rfl (by decide) rfl ?_
  refine sp_weak [true, true, true, true] [some (.ref o0), some (.int a1), some (.int 0), some (.int 0)] rfl ?_
  refine tX5_knowers_l4 hG ho0 hQ (fun b5 h => ?_) F _ _ _ h
  refine sp_iload_n dX5_knowers_33 rfl rfl ?_
  cases h
  exact sp_iret dX5_knowers_34 (ty := .int) rfl rfl (fun _ => hQ)
def fX4_isGuard_l2 (F : Nat) (M0 : sp_Mem) (o0 : Nat) (kx : Option Int32) : Nat → Int32 → Int32 → Int32 → Option Int32
  | 0, _, _, _ => none
  | n + 1, a1, a2, a3 =>
  if (sp_I M0 o0 4) ≤ a3 then (kx) else ((sp_ix 6 a3).bind fun j2 => if (sp_I M0 (o0 + 2) j2) = (-1) then ((fX4_isGuard_l2 F M0 o0 kx n) a1 a2 (a3 + 1)) else ((fX5_knowers F M0 o0 a3).bind fun v4 => if a2 < (fJ6_bitCount_0f7a4 (a1 &&& v4)) then ((fX4_isGuard_l2 F M0 o0 kx n) a1 a2 (a3 + 1)) else (some 0)))
def fX4_isGuard (F : Nat) (M0 : sp_Mem) (o0 : Nat) (a1 : Int32) (a2 : Int32) : Option Int32 :=
  fX4_isGuard_l2 F M0 o0 (some 1) F a1 a2 0
set_option maxRecDepth 100000 in
set_option maxHeartbeats 4000000 in
theorem tX4_isGuard_l2 {g : sp_G} {Ω : sp_Mem → Prop} {Q : sp_Qt} {F : Nat} {M0 : sp_Mem} {p : Int32} (hG : sp_Ok Ω) {o0 : Nat} (ho0 : sp_room o0)  {kx : Option Int32} (hQ : Q (some (.int p)) M0) (hx : kx = some p → sp_Wp g Ω mX4_isGuard 0 0 42 [none, none, none, none] [] M0 Q) : ∀ (n : Nat) (a1 : Int32) (a2 : Int32) (a3 : Int32), fX4_isGuard_l2 F M0 o0 kx n a1 a2 a3 = some p → sp_Wp g Ω mX4_isGuard 0 0 2 [some (.ref o0), some (.int a1), some (.int a2), some (.int a3)] [] M0 Q := by
  intro n
  induction n with
  | zero =>
    intro a1 a2 a3 h
    rw [fX4_isGuard_l2] at h
    cases h
  | succ n ih =>
    intro a1 a2 a3 h
    rw [fX4_isGuard_l2] at h
    refine sp_iload_n dX4_isGuard_2 rfl rfl ?_
    refine sp_aload_n dX4_isGuard_3 rfl rfl ?_
    refine sp_use (fun ho => ?_)
    have hs := hG.1 _ ho
    refine sp_getI (RX5, TX5, 16) dX4_isGuard_4 clX5 (j := 4) (by decide) tw_183 (rmI hs ho0) (Or.inl rfl) ?_
    refine sp_icmp_ge (tgt := 42) dX4_isGuard_7 (by decide) (fun hc1 => ?_) (fun hc1 => ?_)
    · have h := (if_pos hc1).symm.trans h
      refine sp_weak [false, false, false, false] [none, none, none, none] rfl ?_
      exact hx h
    · have h := (if_neg hc1).symm.trans h
      refine sp_aload_n dX4_isGuard_10 rfl rfl ?_
      refine sp_getR (RX5, TX5, 16) dX4_isGuard_11 clX5 (j := 1) (by decide) tw_174 (rmI hs ho0) (Or.inr ⟨_, rfl⟩) (rmP_1 hs ho0) ?_
      refine sp_iload_n dX4_isGuard_14 rfl rfl ?_
      obtain ⟨j2, hj2, h⟩ := Option.bind_eq_some_iff.mp h
      refine sp_iald2 (j := j2) dX4_isGuard_15 (rmA_2 hs ho0) (rmN_2 hs ho0) hj2 ?_
      refine sp_iconst (v := (-1)) dX4_isGuard_16 (by decide) ?_
      refine sp_icmp_eq (tgt := 36) dX4_isGuard_17 (by decide) (fun hc3 => ?_) (fun hc3 => ?_)
      · have h := (if_pos hc3).symm.trans h
        refine sp_iinc (v := (a3 + 1)) [some (.ref o0), some (.int a1), some (.int a2), some (.int (a3 + 1))] dX4_isGuard_36 rfl rfl (by decide) rfl ?_
        refine sp_goto (tgt := 2) dX4_isGuard_39 (by decide) ?_
        refine sp_weak [true, true, true, true] [some (.ref o0), some (.int a1), some (.int a2), some (.int (a3 + 1))] rfl ?_
        exact ih _ _ _ h
      · have h := (if_neg hc3).symm.trans h
        refine sp_iload_n dX4_isGuard_20 rfl rfl ?_
        refine sp_aload_n dX4_isGuard_21 rfl rfl ?_
        refine sp_iload_n dX4_isGuard_22 rfl rfl ?_
        obtain ⟨v4, hv4, h⟩ := Option.bind_eq_some_iff.mp h
        refine sp_cV (M1 := M0) (r := some (.int v4)) (o := o0) (st := [.int a1]) (c := 4) (RX5, TX5, 16) [.int a3] [.int a3, .ref o0, .int a1] [.int v4, .int a1] dX4_isGuard_23 okX5_knowers tw_1094 tw_555 tw_556 (by decide) (by decide) rfl (Nat.le_of_ble_eq_true rfl) rfl rfl rfl rfl (rmI hs ho0) (fun Q hQ => tX5_knowers hG ho0 hv4 hQ) ?_
        refine sp_iand dX4_isGuard_26 ?_
        refine sp_cS (M1 := M0) (r := some (.int (fJ6_bitCount_0f7a4 (a1 &&& v4)))) (st := []) [.int (a1 &&& v4)] [.int (a1 &&& v4)] [.int (fJ6_bitCount_0f7a4 (a1 &&& v4))] dX4_isGuard_27 okJ6_bitCount_0f7a4 tw_1053 tw_1054 (by decide) (by decide) rfl (Nat.le_of_ble_eq_true rfl) rfl rfl (fun Q hQ => tJ6_bitCount_0f7a4 hG rfl hQ) ?_
        refine sp_iload_n dX4_isGuard_30 rfl rfl ?_
        refine sp_icmp_gt (tgt := 36) dX4_isGuard_31 (by decide) (fun hc5 => ?_) (fun hc5 => ?_)
        · have h := (if_pos hc5).symm.trans h
          refine sp_iinc (v := (a3 + 1)) [some (.ref o0), some (.int a1), some (.int a2), some (.int (a3 + 1))] dX4_isGuard_36 rfl rfl (by decide) rfl ?_
          refine sp_goto (tgt := 2) dX4_isGuard_39 (by decide) ?_
          refine sp_weak [true, true, true, true] [some (.ref o0), some (.int a1), some (.int a2), some (.int (a3 + 1))] rfl ?_
          exact ih _ _ _ h
        · have h := (if_neg hc5).symm.trans h
          refine sp_iconst (v := 0) dX4_isGuard_34 (by decide) ?_
          cases h
          exact sp_iret dX4_isGuard_35 (ty := .boolean) rfl (sp_nz (Or.inl rfl)) (fun _ => hQ)
set_option maxRecDepth 100000 in
set_option maxHeartbeats 4000000 in
theorem tX4_isGuard {g : sp_G} {Ω : sp_Mem → Prop} {Q : sp_Qt} {F : Nat} {M0 : sp_Mem} {p : Int32} (hG : sp_Ok Ω) {o0 : Nat} (ho0 : sp_room o0) {a1 : Int32} {a2 : Int32} (h : fX4_isGuard F M0 o0 a1 a2 = some p) (hQ : Q (some (.int p)) M0) : sp_Mt g Ω mX4_isGuard 0 0 [.ref o0, .int a1, .int a2] M0 Q := by
  unfold fX4_isGuard at h
  refine sp_Mt.of [some (.ref o0), some (.int a1), some (.int a2), none] (by decide) (by simp [sp_ent, Value.category]) rfl ?_
  refine sp_iconst (v := 0) dX4_isGuard_0 (by decide) ?_
  refine sp_istore_n [some (.ref o0), some (.int a1), some (.int a2), some (.int 0)] dX4_isGuard_1 rfl (by decide) rfl ?_
  refine sp_weak [true, true, true, true] [some (.ref o0), some (.int a1), some (.int a2), some (.int 0)] rfl ?_
  refine tX4_isGuard_l2 hG ho0 hQ (fun h => ?_) F _ _ _ h
  refine sp_iconst (v := 1) dX4_isGuard_42 (by decide) ?_
  cases h
  exact sp_iret dX4_isGuard_43 (ty := .boolean) rfl (sp_nz (Or.inr rfl)) (fun _ => hQ)
def fX4_guards_j36 (F : Nat) (M0 : sp_Mem) (o0 : Nat) (kb : Int32 → Int32 → Int32 → Option Int32) (kx : Int32 → Option Int32) (a1 : Int32) (a2 : Int32) (a3 : Int32) (s0 : Int32) : Option Int32 :=
  if s0 = 0 then (kb a1 a2 (a3 + (-1))) else ((fX4_isGuard F M0 o0 a3 a1).bind fun v5 => if v5 = 0 then (kb a1 a2 (a3 + (-1))) else (kb a1 a3 (a3 + (-1))))
def fX4_guards_j31 (F : Nat) (M0 : sp_Mem) (o0 : Nat) (kb : Int32 → Int32 → Int32 → Option Int32) (kx : Int32 → Option Int32) (a1 : Int32) (a2 : Int32) (a3 : Int32) : Option Int32 :=
  fX4_guards_j36 F M0 o0 kb kx a1 a2 a3 1
def fX4_guards_l11 (F : Nat) (M0 : sp_Mem) (o0 : Nat) (kx : Int32 → Option Int32) : Nat → Int32 → Int32 → Int32 → Option Int32
  | 0, _, _, _ => none
  | n + 1, a1, a2, a3 =>
  if a3 < 0 then (kx a2) else (if a2 = (-1) then (fX4_guards_j31 F M0 o0 (fX4_guards_l11 F M0 o0 kx n) kx a1 a2 a3) else (fX4_guards_j36 F M0 o0 (fX4_guards_l11 F M0 o0 kx n) kx a1 a2 a3 (if (fJ6_bitCount_0f7a4 a2) < (fJ6_bitCount_0f7a4 a3) then 0 else 1)))
def fX4_guards (F : Nat) (M0 : sp_Mem) (o0 : Nat) (a1 : Int32) : Option Int32 :=
  sp_do (((1 <<< ((sp_I M0 o0 8) &&& 31)) - 1)) fun u1 => fX4_guards_l11 F M0 o0 (fun b9 => some b9) F a1 (-1) u1
set_option maxRecDepth 100000 in
set_option maxHeartbeats 4000000 in
theorem tX4_guards_j36 {g : sp_G} {Ω : sp_Mem → Prop} {Q : sp_Qt} {F : Nat} {M0 : sp_Mem} {p : Int32} (hG : sp_Ok Ω) {o0 : Nat} (ho0 : sp_room o0)  {kb : Int32 → Int32 → Int32 → Option Int32} {kx : Int32 → Option Int32} (hQ : Q (some (.int p)) M0) (hb : ∀ (a1 : Int32) (a2 : Int32) (a3 : Int32), kb a1 a2 a3 = some p → sp_Wp g Ω mX4_guards 0 0 11 [some (.ref o0), some (.int a1), some (.int a2), some (.int a3), none] [] M0 Q) (hx : ∀ (a2 : Int32), kx a2 = some p → sp_Wp g Ω mX4_guards 0 0 60 [none, none, some (.int a2), none, none] [] M0 Q) (a1 : Int32) (a2 : Int32) (a3 : Int32) (s0 : Int32) (h : fX4_guards_j36 F M0 o0 kb kx a1 a2 a3 s0 = some p) : sp_Wp g Ω mX4_guards 0 0 36 [some (.ref o0), some (.int a1), some (.int a2), some (.int a3), none] [.int s0] M0 Q := by
  unfold fX4_guards_j36 at h
  refine sp_istore [some (.ref o0), some (.int a1), some (.int a2), some (.int a3), some (.int s0)] dX4_guards_36 (by decide) rfl ?_
  refine sp_iload dX4_guards_38 rfl ?_
  refine sp_if_eq (tgt := 54) dX4_guards_40 (by decide) (fun hc4 => ?_) (fun hc4 => ?_)
  · have h := (if_pos hc4).symm.trans h
    refine sp_iinc (v := (a3 + (-1))) [some (.ref o0), some (.int a1), some (.int a2), some (.int (a3 + (-1))), some (.int s0)] dX4_guards_54 rfl rfl (by decide) rfl ?_
    refine sp_goto (tgt := 11) dX4_guards_57 (by decide) ?_
    refine sp_weak [true, true, true, true, false] [some (.ref o0), some (.int a1), some (.int a2), some (.int (a3 + (-1))), none] rfl ?_
    exact hb _ _ _ h
  · have h := (if_neg hc4).symm.trans h
    refine sp_aload_n dX4_guards_43 rfl rfl ?_
    refine sp_iload_n dX4_guards_44 rfl rfl ?_
    refine sp_iload_n dX4_guards_45 rfl rfl ?_
    refine sp_use (fun ho => ?_)
    have hs := hG.1 _ ho
    obtain ⟨v5, hv5, h⟩ := Option.bind_eq_some_iff.mp h
    refine sp_cS (M1 := M0) (r := some (.int v5)) (st := []) [.ref o0, .int a3, .int a1] [.int a1, .int a3, .ref o0] [.int v5] dX4_guards_46 okX4_isGuard tw_1091 tw_1092 (by decide) (by decide) rfl (Nat.le_of_ble_eq_true rfl) rfl rfl (fun Q hQ => tX4_isGuard hG ho0 hv5 hQ) ?_
    refine sp_if_eq (tgt := 54) dX4_guards_49 (by decide) (fun hc6 => ?_) (fun hc6 => ?_)
    · have h := (if_pos hc6).symm.trans h
      refine sp_iinc (v := (a3 + (-1))) [some (.ref o0), some (.int a1), some (.int a2), some (.int (a3 + (-1))), some (.int s0)] dX4_guards_54 rfl rfl (by decide) rfl ?_
      refine sp_goto (tgt := 11) dX4_guards_57 (by decide) ?_
      refine sp_weak [true, true, true, true, false] [some (.ref o0), some (.int a1), some (.int a2), some (.int (a3 + (-1))), none] rfl ?_
      exact hb _ _ _ h
    · have h := (if_neg hc6).symm.trans h
      refine sp_iload_n dX4_guards_52 rfl rfl ?_
      refine sp_istore_n [some (.ref o0), some (.int a1), some (.int a3), some (.int a3), some (.int s0)] dX4_guards_53 rfl (by decide) rfl ?_
      refine sp_iinc (v := (a3 + (-1))) [some (.ref o0), some (.int a1), some (.int a3), some (.int (a3 + (-1))), some (.int s0)] dX4_guards_54 rfl rfl (by decide) rfl ?_
      refine sp_goto (tgt := 11) dX4_guards_57 (by decide) ?_
      refine sp_weak [true, true, true, true, false] [some (.ref o0), some (.int a1), some (.int a3), some (.int (a3 + (-1))), none] rfl ?_
      exact hb _ _ _ h
set_option maxRecDepth 100000 in
set_option maxHeartbeats 4000000 in
theorem tX4_guards_j31 {g : sp_G} {Ω : sp_Mem → Prop} {Q : sp_Qt} {F : Nat} {M0 : sp_Mem} {p : Int32} (hG : sp_Ok Ω) {o0 : Nat} (ho0 : sp_room o0)  {kb : Int32 → Int32 → Int32 → Option Int32} {kx : Int32 → Option Int32} (hQ : Q (some (.int p)) M0) (hb : ∀ (a1 : Int32) (a2 : Int32) (a3 : Int32), kb a1 a2 a3 = some p → sp_Wp g Ω mX4_guards 0 0 11 [some (.ref o0), some (.int a1), some (.int a2), some (.int a3), none] [] M0 Q) (hx : ∀ (a2 : Int32), kx a2 = some p → sp_Wp g Ω mX4_guards 0 0 60 [none, none, some (.int a2), none, none] [] M0 Q) (a1 : Int32) (a2 : Int32) (a3 : Int32) (h : fX4_guards_j31 F M0 o0 kb kx a1 a2 a3 = some p) : sp_Wp g Ω mX4_guards 0 0 31 [some (.ref o0), some (.int a1), some (.int a2), some (.int a3), none] [] M0 Q := by
  unfold fX4_guards_j31 at h
  refine sp_iconst (v := 1) dX4_guards_31 (by decide) ?_
  refine sp_goto (tgt := 36) dX4_guards_32 (by decide) ?_
  refine sp_weak [true, true, true, true, false] [some (.ref o0), some (.int a1), some (.int a2), some (.int a3), none] rfl ?_
  exact tX4_guards_j36 hG ho0 hQ hb hx _ _ _ _ h
set_option maxRecDepth 100000 in
set_option maxHeartbeats 4000000 in
theorem tX4_guards_l11 {g : sp_G} {Ω : sp_Mem → Prop} {Q : sp_Qt} {F : Nat} {M0 : sp_Mem} {p : Int32} (hG : sp_Ok Ω) {o0 : Nat} (ho0 : sp_room o0)  {kx : Int32 → Option Int32} (hQ : Q (some (.int p)) M0) (hx : ∀ (a2 : Int32), kx a2 = some p → sp_Wp g Ω mX4_guards 0 0 60 [none, none, some (.int a2), none, none] [] M0 Q) : ∀ (n : Nat) (a1 : Int32) (a2 : Int32) (a3 : Int32), fX4_guards_l11 F M0 o0 kx n a1 a2 a3 = some p → sp_Wp g Ω mX4_guards 0 0 11 [some (.ref o0), some (.int a1), some (.int a2), some (.int a3), none] [] M0 Q := by
  intro n
  induction n with
  | zero =>
    intro a1 a2 a3 h
    rw [fX4_guards_l11] at h
    cases h
  | succ n ih =>
    intro a1 a2 a3 h
    rw [fX4_guards_l11] at h
    refine sp_iload_n dX4_guards_11 rfl rfl ?_
    refine sp_if_lt (tgt := 60) dX4_guards_12 (by decide) (fun hc2 => ?_) (fun hc2 => ?_)
    · have h := (if_pos hc2).symm.trans h
      refine sp_weak [false, false, true, false, false] [none, none, some (.int a2), none, none] rfl ?_
      exact hx _ h
    · have h := (if_neg hc2).symm.trans h
      refine sp_iload_n dX4_guards_15 rfl rfl ?_
      refine sp_iconst (v := (-1)) dX4_guards_16 (by decide) ?_
      refine sp_icmp_eq (tgt := 31) dX4_guards_17 (by decide) (fun hc3 => ?_) (fun hc3 => ?_)
      · have h := (if_pos hc3).symm.trans h
        refine sp_weak [true, true, true, true, false] [some (.ref o0), some (.int a1), some (.int a2), some (.int a3), none] rfl ?_
        exact tX4_guards_j31 hG ho0 hQ ih hx _ _ _ h
      · have h := (if_neg hc3).symm.trans h
        refine sp_iload_n dX4_guards_20 rfl rfl ?_
        refine sp_use (fun ho => ?_)
        have hs := hG.1 _ ho
        refine sp_cS (M1 := M0) (r := some (.int (fJ6_bitCount_0f7a4 a3))) (st := []) [.int a3] [.int a3] [.int (fJ6_bitCount_0f7a4 a3)] dX4_guards_21 okJ6_bitCount_0f7a4 tw_1053 tw_1054 (by decide) (by decide) rfl (Nat.le_of_ble_eq_true rfl) rfl rfl (fun Q hQ => tJ6_bitCount_0f7a4 hG rfl hQ) ?_
        refine sp_iload_n dX4_guards_24 rfl rfl ?_
        refine sp_cS (M1 := M0) (r := some (.int (fJ6_bitCount_0f7a4 a2))) (st := [.int (fJ6_bitCount_0f7a4 a3)]) [.int a2] [.int a2, .int (fJ6_bitCount_0f7a4 a3)] [.int (fJ6_bitCount_0f7a4 a2), .int (fJ6_bitCount_0f7a4 a3)] dX4_guards_25 okJ6_bitCount_0f7a4 tw_1053 tw_1054 (by decide) (by decide) rfl (Nat.le_of_ble_eq_true rfl) rfl rfl (fun Q hQ => tJ6_bitCount_0f7a4 hG rfl hQ) ?_
        suffices hj : sp_Wp g Ω mX4_guards 0 0 36 [some (.ref o0), some (.int a1), some (.int a2), some (.int a3), none] [.int (if (fJ6_bitCount_0f7a4 a2) < (fJ6_bitCount_0f7a4 a3) then 0 else 1)] M0 Q by
          refine sp_icmp_gt (tgt := 35) dX4_guards_28 (by decide) (fun hc7 => ?_) (fun hc7 => ?_)
          · refine sp_iconst (v := 0) dX4_guards_35 (by decide) ?_
            simp only [if_pos hc7] at hj
            exact hj
          · refine sp_iconst (v := 1) dX4_guards_31 (by decide) ?_
            refine sp_goto (tgt := 36) dX4_guards_32 (by decide) ?_
            simp only [if_neg hc7] at hj
            exact hj
        refine sp_weak [true, true, true, true, false] [some (.ref o0), some (.int a1), some (.int a2), some (.int a3), none] rfl ?_
        exact tX4_guards_j36 hG ho0 hQ ih hx _ _ _ _ h
set_option maxRecDepth 100000 in
set_option maxHeartbeats 4000000 in
theorem tX4_guards {g : sp_G} {Ω : sp_Mem → Prop} {Q : sp_Qt} {F : Nat} {M0 : sp_Mem} {p : Int32} (hG : sp_Ok Ω) {o0 : Nat} (ho0 : sp_room o0) {a1 : Int32} (h : fX4_guards F M0 o0 a1 = some p) (hQ : Q (some (.int p)) M0) : sp_Mt g Ω mX4_guards 0 0 [.ref o0, .int a1] M0 Q := by
  unfold fX4_guards at h
  refine sp_Mt.of [some (.ref o0), some (.int a1), none, none, none] (by decide) (by simp [sp_ent, Value.category]) rfl ?_
  refine sp_iconst (v := (-1)) dX4_guards_0 (by decide) ?_
  refine sp_istore_n [some (.ref o0), some (.int a1), some (.int (-1)), none, none] dX4_guards_1 rfl (by decide) rfl ?_
  refine sp_iconst (v := 1) dX4_guards_2 (by decide) ?_
  refine sp_aload_n dX4_guards_3 rfl rfl ?_
  refine sp_use (fun ho => ?_)
  have hs := hG.1 _ ho
  refine sp_getI (RX5, TX5, 16) dX4_guards_4 clX5 (j := 8) (by decide) tw_199 (rmI hs ho0) (Or.inl rfl) ?_
  refine sp_ishl dX4_guards_7 ?_
  refine sp_iconst (v := 1) dX4_guards_8 (by decide) ?_
  refine sp_isub dX4_guards_9 ?_
  obtain ⟨u1, hu1, h⟩ := sp_do_e h
  refine sp_topi hu1 ?_
  refine sp_istore_n [some (.ref o0), some (.int a1), some (.int (-1)), some (.int u1), none] dX4_guards_10 rfl (by decide) rfl ?_
  refine sp_weak [true, true, true, true, false] [some (.ref o0), some (.int a1), some (.int (-1)), some (.int u1), none] rfl ?_
  refine tX4_guards_l11 hG ho0 hQ (fun b9 h => ?_) F _ _ _ h
  refine sp_iload_n dX4_guards_60 rfl rfl ?_
  cases h
  exact sp_iret dX4_guards_61 (ty := .int) rfl rfl (fun _ => hQ)
def fX4_lessonsNeeded_l4 (F : Nat) (M0 : sp_Mem) (o0 : Nat) (kx : Int32 → Option Int32) : Nat → Int32 → Int32 → Int32 → Option Int32
  | 0, _, _, _ => none
  | n + 1, a1, a2, a3 =>
  if (sp_I M0 o0 4) ≤ a3 then (kx a2) else ((fX5_knowers F M0 o0 a3).bind fun v2 => sp_do ((a2 + (sp_max 0 (a1 - (fJ6_bitCount_0f7a4 v2))))) fun u3 => (fX4_lessonsNeeded_l4 F M0 o0 kx n) a1 u3 (a3 + 1))
def fX4_lessonsNeeded (F : Nat) (M0 : sp_Mem) (o0 : Nat) (a1 : Int32) : Option Int32 :=
  fX4_lessonsNeeded_l4 F M0 o0 (fun b5 => some b5) F a1 0 0
set_option maxRecDepth 100000 in
set_option maxHeartbeats 4000000 in
theorem tX4_lessonsNeeded_l4 {g : sp_G} {Ω : sp_Mem → Prop} {Q : sp_Qt} {F : Nat} {M0 : sp_Mem} {p : Int32} (hG : sp_Ok Ω) {o0 : Nat} (ho0 : sp_room o0)  {kx : Int32 → Option Int32} (hQ : Q (some (.int p)) M0) (hx : ∀ (a2 : Int32), kx a2 = some p → sp_Wp g Ω mX4_lessonsNeeded 0 0 35 [none, none, some (.int a2), none] [] M0 Q) : ∀ (n : Nat) (a1 : Int32) (a2 : Int32) (a3 : Int32), fX4_lessonsNeeded_l4 F M0 o0 kx n a1 a2 a3 = some p → sp_Wp g Ω mX4_lessonsNeeded 0 0 4 [some (.ref o0), some (.int a1), some (.int a2), some (.int a3)] [] M0 Q := by
  intro n
  induction n with
  | zero =>
    intro a1 a2 a3 h
    rw [fX4_lessonsNeeded_l4] at h
    cases h
  | succ n ih =>
    intro a1 a2 a3 h
    rw [fX4_lessonsNeeded_l4] at h
    refine sp_iload_n dX4_lessonsNeeded_4 rfl rfl ?_
    refine sp_aload_n dX4_lessonsNeeded_5 rfl rfl ?_
    refine sp_use (fun ho => ?_)
    have hs := hG.1 _ ho
    refine sp_getI (RX5, TX5, 16) dX4_lessonsNeeded_6 clX5 (j := 4) (by decide) tw_183 (rmI hs ho0) (Or.inl rfl) ?_
    refine sp_icmp_ge (tgt := 35) dX4_lessonsNeeded_9 (by decide) (fun hc1 => ?_) (fun hc1 => ?_)
    · have h := (if_pos hc1).symm.trans h
      refine sp_weak [false, false, true, false] [none, none, some (.int a2), none] rfl ?_
      exact hx _ h
    · have h := (if_neg hc1).symm.trans h
      refine sp_iload_n dX4_lessonsNeeded_12 rfl rfl ?_
      refine sp_iconst (v := 0) dX4_lessonsNeeded_13 (by decide) ?_
      refine sp_iload_n dX4_lessonsNeeded_14 rfl rfl ?_
      refine sp_aload_n dX4_lessonsNeeded_15 rfl rfl ?_
      refine sp_iload_n dX4_lessonsNeeded_16 rfl rfl ?_
      obtain ⟨v2, hv2, h⟩ := Option.bind_eq_some_iff.mp h
      refine sp_cV (M1 := M0) (r := some (.int v2)) (o := o0) (st := [.int a1, .int 0, .int a2]) (c := 4) (RX5, TX5, 16) [.int a3] [.int a3, .ref o0, .int a1, .int 0, .int a2] [.int v2, .int a1, .int 0, .int a2] dX4_lessonsNeeded_17 okX5_knowers tw_1094 tw_555 tw_556 (by decide) (by decide) rfl (Nat.le_of_ble_eq_true rfl) rfl rfl rfl rfl (rmI hs ho0) (fun Q hQ => tX5_knowers hG ho0 hv2 hQ) ?_
      refine sp_cS (M1 := M0) (r := some (.int (fJ6_bitCount_0f7a4 v2))) (st := [.int a1, .int 0, .int a2]) [.int v2] [.int v2, .int a1, .int 0, .int a2] [.int (fJ6_bitCount_0f7a4 v2), .int a1, .int 0, .int a2] dX4_lessonsNeeded_20 okJ6_bitCount_0f7a4 tw_1053 tw_1054 (by decide) (by decide) rfl (Nat.le_of_ble_eq_true rfl) rfl rfl (fun Q hQ => tJ6_bitCount_0f7a4 hG rfl hQ) ?_
      refine sp_isub dX4_lessonsNeeded_23 ?_
      refine sp_mmax dX4_lessonsNeeded_24 tw_1059 (by decide) (Nat.le_of_ble_eq_true rfl) ?_
      refine sp_iadd dX4_lessonsNeeded_27 ?_
      obtain ⟨u3, hu3, h⟩ := sp_do_e h
      refine sp_topi hu3 ?_
      refine sp_istore_n [some (.ref o0), some (.int a1), some (.int u3), some (.int a3)] dX4_lessonsNeeded_28 rfl (by decide) rfl ?_
      refine sp_iinc (v := (a3 + 1)) [some (.ref o0), some (.int a1), some (.int u3), some (.int (a3 + 1))] dX4_lessonsNeeded_29 rfl rfl (by decide) rfl ?_
      refine sp_goto (tgt := 4) dX4_lessonsNeeded_32 (by decide) ?_
      refine sp_weak [true, true, true, true] [some (.ref o0), some (.int a1), some (.int u3), some (.int (a3 + 1))] rfl ?_
      exact ih _ _ _ h
set_option maxRecDepth 100000 in
set_option maxHeartbeats 4000000 in
theorem tX4_lessonsNeeded {g : sp_G} {Ω : sp_Mem → Prop} {Q : sp_Qt} {F : Nat} {M0 : sp_Mem} {p : Int32} (hG : sp_Ok Ω) {o0 : Nat} (ho0 : sp_room o0) {a1 : Int32} (h : fX4_lessonsNeeded F M0 o0 a1 = some p) (hQ : Q (some (.int p)) M0) : sp_Mt g Ω mX4_lessonsNeeded 0 0 [.ref o0, .int a1] M0 Q := by
  unfold fX4_lessonsNeeded at h
  refine sp_Mt.of [some (.ref o0), some (.int a1), none, none] (by decide) (by simp [sp_ent, Value.category]) rfl ?_
  refine sp_iconst (v := 0) dX4_lessonsNeeded_0 (by decide) ?_
  refine sp_istore_n [some (.ref o0), some (.int a1), some (.int 0), none] dX4_lessonsNeeded_1 rfl (by decide) rfl ?_
  refine sp_iconst (v := 0) dX4_lessonsNeeded_2 (by decide) ?_
  refine sp_istore_n [some (.ref o0), some (.int a1), some (.int 0), some (.int 0)] dX4_lessonsNeeded_3 rfl (by decide) rfl ?_
  refine sp_weak [true, true, true, true] [some (.ref o0), some (.int a1), some (.int 0), some (.int 0)] rfl ?_
  refine tX4_lessonsNeeded_l4 hG ho0 hQ (fun b5 h => ?_) F _ _ _ h
  refine sp_iload_n dX4_lessonsNeeded_35 rfl rfl ?_
  cases h
  exact sp_iret dX4_lessonsNeeded_36 (ty := .int) rfl rfl (fun _ => hQ)
def fX5_looseSparks_l4 (F : Nat) (M0 : sp_Mem) (o0 : Nat) (kx : Int32 → Option Int32) : Nat → Int32 → Int32 → Option Int32
  | 0, _, _ => none
  | n + 1, a1, a2 =>
  if (sp_I M0 o0 4) ≤ a2 then (kx a1) else ((sp_ix 6 a2).bind fun j2 => if (sp_I M0 (o0 + 2) j2) = (-1) then ((fX5_looseSparks_l4 F M0 o0 kx n) a1 (a2 + 1)) else ((fX5_looseSparks_l4 F M0 o0 kx n) (a1 + 1) (a2 + 1)))
def fX5_looseSparks (F : Nat) (M0 : sp_Mem) (o0 : Nat) : Option Int32 :=
  fX5_looseSparks_l4 F M0 o0 (fun b5 => some b5) F 0 0
set_option maxRecDepth 100000 in
set_option maxHeartbeats 4000000 in
theorem tX5_looseSparks_l4 {g : sp_G} {Ω : sp_Mem → Prop} {Q : sp_Qt} {F : Nat} {M0 : sp_Mem} {p : Int32} (hG : sp_Ok Ω) {o0 : Nat} (ho0 : sp_room o0)  {kx : Int32 → Option Int32} (hQ : Q (some (.int p)) M0) (hx : ∀ (a1 : Int32), kx a1 = some p → sp_Wp g Ω mX5_looseSparks 0 0 31 [none, some (.int a1), none] [] M0 Q) : ∀ (n : Nat) (a1 : Int32) (a2 : Int32), fX5_looseSparks_l4 F M0 o0 kx n a1 a2 = some p → sp_Wp g Ω mX5_looseSparks 0 0 4 [some (.ref o0), some (.int a1), some (.int a2)] [] M0 Q := by
  intro n
  induction n with
  | zero =>
    intro a1 a2 h
    rw [fX5_looseSparks_l4] at h
    cases h
  | succ n ih =>
    intro a1 a2 h
    rw [fX5_looseSparks_l4] at h
    refine sp_iload_n dX5_looseSparks_4 rfl rfl ?_
    refine sp_aload_n dX5_looseSparks_5 rfl rfl ?_
    refine sp_use (fun ho => ?_)
    have hs := hG.1 _ ho
    refine sp_getI (RX5, TX5, 16) dX5_looseSparks_6 clX5 (j := 4) (by decide) tw_184 (rmI hs ho0) (Or.inl rfl) ?_
    refine sp_icmp_ge (tgt := 31) dX5_looseSparks_9 (by decide) (fun hc1 => ?_) (fun hc1 => ?_)
    · have h := (if_pos hc1).symm.trans h
      refine sp_weak [false, true, false] [none, some (.int a1), none] rfl ?_
      exact hx _ h
    · have h := (if_neg hc1).symm.trans h
      refine sp_aload_n dX5_looseSparks_12 rfl rfl ?_
      refine sp_getR (RX5, TX5, 16) dX5_looseSparks_13 clX5 (j := 1) (by decide) tw_169 (rmI hs ho0) (Or.inr ⟨_, rfl⟩) (rmP_1 hs ho0) ?_
      refine sp_iload_n dX5_looseSparks_16 rfl rfl ?_
      obtain ⟨j2, hj2, h⟩ := Option.bind_eq_some_iff.mp h
      refine sp_iald2 (j := j2) dX5_looseSparks_17 (rmA_2 hs ho0) (rmN_2 hs ho0) hj2 ?_
      refine sp_iconst (v := (-1)) dX5_looseSparks_18 (by decide) ?_
      refine sp_icmp_eq (tgt := 25) dX5_looseSparks_19 (by decide) (fun hc3 => ?_) (fun hc3 => ?_)
      · have h := (if_pos hc3).symm.trans h
        refine sp_iinc (v := (a2 + 1)) [some (.ref o0), some (.int a1), some (.int (a2 + 1))] dX5_looseSparks_25 rfl rfl (by decide) rfl ?_
        refine sp_goto (tgt := 4) dX5_looseSparks_28 (by decide) ?_
        refine sp_weak [true, true, true] [some (.ref o0), some (.int a1), some (.int (a2 + 1))] rfl ?_
        exact ih _ _ h
      · have h := (if_neg hc3).symm.trans h
        refine sp_iinc (v := (a1 + 1)) [some (.ref o0), some (.int (a1 + 1)), some (.int a2)] dX5_looseSparks_22 rfl rfl (by decide) rfl ?_
        refine sp_iinc (v := (a2 + 1)) [some (.ref o0), some (.int (a1 + 1)), some (.int (a2 + 1))] dX5_looseSparks_25 rfl rfl (by decide) rfl ?_
        refine sp_goto (tgt := 4) dX5_looseSparks_28 (by decide) ?_
        refine sp_weak [true, true, true] [some (.ref o0), some (.int (a1 + 1)), some (.int (a2 + 1))] rfl ?_
        exact ih _ _ h
set_option maxRecDepth 100000 in
set_option maxHeartbeats 4000000 in
theorem tX5_looseSparks {g : sp_G} {Ω : sp_Mem → Prop} {Q : sp_Qt} {F : Nat} {M0 : sp_Mem} {p : Int32} (hG : sp_Ok Ω) {o0 : Nat} (ho0 : sp_room o0) (h : fX5_looseSparks F M0 o0 = some p) (hQ : Q (some (.int p)) M0) : sp_Mt g Ω mX5_looseSparks 0 0 [.ref o0] M0 Q := by
  unfold fX5_looseSparks at h
  refine sp_Mt.of [some (.ref o0), none, none] (by decide) (by simp [sp_ent, Value.category]) rfl ?_
  refine sp_iconst (v := 0) dX5_looseSparks_0 (by decide) ?_
  refine sp_istore_n [some (.ref o0), some (.int 0), none] dX5_looseSparks_1 rfl (by decide) rfl ?_
  refine sp_iconst (v := 0) dX5_looseSparks_2 (by decide) ?_
  refine sp_istore_n [some (.ref o0), some (.int 0), some (.int 0)] dX5_looseSparks_3 rfl (by decide) rfl ?_
  refine sp_weak [true, true, true] [some (.ref o0), some (.int 0), some (.int 0)] rfl ?_
  refine tX5_looseSparks_l4 hG ho0 hQ (fun b5 h => ?_) F _ _ h
  refine sp_iload_n dX5_looseSparks_31 rfl rfl ?_
  cases h
  exact sp_iret dX5_looseSparks_32 (ty := .int) rfl rfl (fun _ => hQ)
def fX5_addSpark (M : sp_Mem) (o0 : Nat) (a1 : Int32) (a2 : Int32) (a3 : Int32) : Option (Int32 × sp_Mem) :=
  if (sp_I M o0 4) < 6 then ((sp_ix 6 (sp_I M o0 4)).bind fun j2 => sp_do (sp_setI M (o0 + 2) j2 a1) fun M3 => (sp_ix 6 (sp_I M3 o0 4)).bind fun j4 => sp_do (sp_setI M3 (o0 + 3) j4 a2) fun M5 => (sp_ix 6 (sp_I M5 o0 4)).bind fun j6 => sp_do (sp_setI M5 (o0 + 4) j6 a3) fun M7 => sp_do (sp_setI M7 o0 4 ((sp_I M7 o0 4) + 1)) fun M8 => some ((sp_I M7 o0 4), M8)) else (some ((-5), M))
set_option maxRecDepth 100000 in
set_option maxHeartbeats 4000000 in
theorem tX5_addSpark {g : sp_G} {Ω : sp_Mem → Prop} {Q : sp_Qt} {p : (Int32 × sp_Mem)} (hG : sp_Ok Ω) {o0 : Nat} (ho0 : sp_room o0) {M : sp_Mem} {a1 : Int32} {a2 : Int32} {a3 : Int32} (h : fX5_addSpark M o0 a1 a2 a3 = some p) (hQ : Q (some (.int p.1)) p.2) : sp_Mt g Ω mX5_addSpark 0 0 [.ref o0, .int a1, .int a2, .int a3] M Q := by
  unfold fX5_addSpark at h
  refine sp_Mt.of [some (.ref o0), some (.int a1), some (.int a2), some (.int a3)] (by decide) (by simp [sp_ent, Value.category]) rfl ?_
  refine sp_aload_n dX5_addSpark_0 rfl rfl ?_
  refine sp_use (fun ho => ?_)
  have hs := hG.1 _ ho
  refine sp_getI (RX5, TX5, 16) dX5_addSpark_1 clX5 (j := 4) (by decide) tw_184 (rmI hs ho0) (Or.inl rfl) ?_
  refine sp_bipush (v := 6) dX5_addSpark_4 (by decide) ?_
  refine sp_icmp_lt (tgt := 12) dX5_addSpark_6 (by decide) (fun hc1 => ?_) (fun hc1 => ?_)
  · have h := (if_pos hc1).symm.trans h
    refine sp_aload_n dX5_addSpark_12 rfl rfl ?_
    refine sp_getR (RX5, TX5, 16) dX5_addSpark_13 clX5 (j := 1) (by decide) tw_169 (rmI hs ho0) (Or.inr ⟨_, rfl⟩) (rmP_1 hs ho0) ?_
    refine sp_aload_n dX5_addSpark_16 rfl rfl ?_
    refine sp_getI (RX5, TX5, 16) dX5_addSpark_17 clX5 (j := 4) (by decide) tw_184 (rmI hs ho0) (Or.inl rfl) ?_
    refine sp_iload_n dX5_addSpark_20 rfl rfl ?_
    obtain ⟨j2, hj2, h⟩ := Option.bind_eq_some_iff.mp h
    obtain ⟨M3, hM3, h⟩ := sp_do_e h
    refine sp_iast2 (j := j2) hG dX5_addSpark_21 (rmA_2 hs ho0) (rmN_2 hs ho0) hj2 hM3 ?_
    refine sp_aload_n dX5_addSpark_22 rfl rfl ?_
    refine sp_use (fun ho => ?_)
    have hs := hG.1 _ ho
    refine sp_getR (RX5, TX5, 16) dX5_addSpark_23 clX5 (j := 2) (by decide) tw_175 (rmI hs ho0) (Or.inr ⟨_, rfl⟩) (rmP_2 hs ho0) ?_
    refine sp_aload_n dX5_addSpark_26 rfl rfl ?_
    refine sp_getI (RX5, TX5, 16) dX5_addSpark_27 clX5 (j := 4) (by decide) tw_184 (rmI hs ho0) (Or.inl rfl) ?_
    refine sp_iload_n dX5_addSpark_30 rfl rfl ?_
    obtain ⟨j4, hj4, h⟩ := Option.bind_eq_some_iff.mp h
    obtain ⟨M5, hM5, h⟩ := sp_do_e h
    refine sp_iast2 (j := j4) hG dX5_addSpark_31 (rmA_3 hs ho0) (rmN_3 hs ho0) hj4 hM5 ?_
    refine sp_aload_n dX5_addSpark_32 rfl rfl ?_
    refine sp_use (fun ho => ?_)
    have hs := hG.1 _ ho
    refine sp_getR (RX5, TX5, 16) dX5_addSpark_33 clX5 (j := 3) (by decide) tw_179 (rmI hs ho0) (Or.inr ⟨_, rfl⟩) (rmP_3 hs ho0) ?_
    refine sp_aload_n dX5_addSpark_36 rfl rfl ?_
    refine sp_getI (RX5, TX5, 16) dX5_addSpark_37 clX5 (j := 4) (by decide) tw_184 (rmI hs ho0) (Or.inl rfl) ?_
    refine sp_iload_n dX5_addSpark_40 rfl rfl ?_
    obtain ⟨j6, hj6, h⟩ := Option.bind_eq_some_iff.mp h
    obtain ⟨M7, hM7, h⟩ := sp_do_e h
    refine sp_iast2 (j := j6) hG dX5_addSpark_41 (rmA_4 hs ho0) (rmN_4 hs ho0) hj6 hM7 ?_
    refine sp_aload_n dX5_addSpark_42 rfl rfl ?_
    refine sp_dup dX5_addSpark_43 rfl ?_
    refine sp_use (fun ho => ?_)
    have hs := hG.1 _ ho
    refine sp_getI (RX5, TX5, 16) dX5_addSpark_44 clX5 (j := 4) (by decide) tw_184 (rmI hs ho0) (Or.inl rfl) ?_
    refine sp_dup_x1 dX5_addSpark_47 rfl rfl ?_
    refine sp_iconst (v := 1) dX5_addSpark_48 (by decide) ?_
    refine sp_iadd dX5_addSpark_49 ?_
    obtain ⟨M8, hM8, h⟩ := sp_do_e h
    refine sp_putI2 (RX5, TX5, 16) hG dX5_addSpark_50 clX5 (j := 4) (by decide) tw_184 rfl (Or.inl rfl) (rmI hs ho0) hM8 ?_
    cases h
    exact sp_iret dX5_addSpark_53 (ty := .int) rfl rfl (fun _ => hQ)
  · have h := (if_neg hc1).symm.trans h
    refine sp_bipush (v := (-5)) dX5_addSpark_9 (by decide) ?_
    cases h
    exact sp_iret dX5_addSpark_11 (ty := .int) rfl rfl (fun _ => hQ)
def fX5_addPerson (M : sp_Mem) (o0 : Nat) (a1 : Int32) (a2 : Int32) : Option (Int32 × sp_Mem) :=
  if (sp_I M o0 8) < 5 then ((sp_ix 5 (sp_I M o0 8)).bind fun j2 => sp_do (sp_setI M (o0 + 5) j2 a1) fun M3 => (sp_ix 5 (sp_I M3 o0 8)).bind fun j4 => sp_do (sp_setI M3 (o0 + 6) j4 a2) fun M5 => (sp_ix 5 (sp_I M5 o0 8)).bind fun j6 => sp_do (sp_setI M5 (o0 + 7) j6 0) fun M7 => sp_do (sp_setI M7 o0 8 ((sp_I M7 o0 8) + 1)) fun M8 => some ((sp_I M7 o0 8), M8)) else (some ((-5), M))
set_option maxRecDepth 100000 in
set_option maxHeartbeats 4000000 in
theorem tX5_addPerson {g : sp_G} {Ω : sp_Mem → Prop} {Q : sp_Qt} {p : (Int32 × sp_Mem)} (hG : sp_Ok Ω) {o0 : Nat} (ho0 : sp_room o0) {M : sp_Mem} {a1 : Int32} {a2 : Int32} (h : fX5_addPerson M o0 a1 a2 = some p) (hQ : Q (some (.int p.1)) p.2) : sp_Mt g Ω mX5_addPerson 0 0 [.ref o0, .int a1, .int a2] M Q := by
  unfold fX5_addPerson at h
  refine sp_Mt.of [some (.ref o0), some (.int a1), some (.int a2)] (by decide) (by simp [sp_ent, Value.category]) rfl ?_
  refine sp_aload_n dX5_addPerson_0 rfl rfl ?_
  refine sp_use (fun ho => ?_)
  have hs := hG.1 _ ho
  refine sp_getI (RX5, TX5, 16) dX5_addPerson_1 clX5 (j := 8) (by decide) tw_200 (rmI hs ho0) (Or.inl rfl) ?_
  refine sp_iconst (v := 5) dX5_addPerson_4 (by decide) ?_
  refine sp_icmp_lt (tgt := 11) dX5_addPerson_5 (by decide) (fun hc1 => ?_) (fun hc1 => ?_)
  · have h := (if_pos hc1).symm.trans h
    refine sp_aload_n dX5_addPerson_11 rfl rfl ?_
    refine sp_getR (RX5, TX5, 16) dX5_addPerson_12 clX5 (j := 5) (by decide) tw_188 (rmI hs ho0) (Or.inr ⟨_, rfl⟩) (rmP_5 hs ho0) ?_
    refine sp_aload_n dX5_addPerson_15 rfl rfl ?_
    refine sp_getI (RX5, TX5, 16) dX5_addPerson_16 clX5 (j := 8) (by decide) tw_200 (rmI hs ho0) (Or.inl rfl) ?_
    refine sp_iload_n dX5_addPerson_19 rfl rfl ?_
    obtain ⟨j2, hj2, h⟩ := Option.bind_eq_some_iff.mp h
    obtain ⟨M3, hM3, h⟩ := sp_do_e h
    refine sp_iast2 (j := j2) hG dX5_addPerson_20 (rmA_5 hs ho0) (rmN_5 hs ho0) hj2 hM3 ?_
    refine sp_aload_n dX5_addPerson_21 rfl rfl ?_
    refine sp_use (fun ho => ?_)
    have hs := hG.1 _ ho
    refine sp_getR (RX5, TX5, 16) dX5_addPerson_22 clX5 (j := 6) (by decide) tw_192 (rmI hs ho0) (Or.inr ⟨_, rfl⟩) (rmP_6 hs ho0) ?_
    refine sp_aload_n dX5_addPerson_25 rfl rfl ?_
    refine sp_getI (RX5, TX5, 16) dX5_addPerson_26 clX5 (j := 8) (by decide) tw_200 (rmI hs ho0) (Or.inl rfl) ?_
    refine sp_iload_n dX5_addPerson_29 rfl rfl ?_
    obtain ⟨j4, hj4, h⟩ := Option.bind_eq_some_iff.mp h
    obtain ⟨M5, hM5, h⟩ := sp_do_e h
    refine sp_iast2 (j := j4) hG dX5_addPerson_30 (rmA_6 hs ho0) (rmN_6 hs ho0) hj4 hM5 ?_
    refine sp_aload_n dX5_addPerson_31 rfl rfl ?_
    refine sp_use (fun ho => ?_)
    have hs := hG.1 _ ho
    refine sp_getR (RX5, TX5, 16) dX5_addPerson_32 clX5 (j := 7) (by decide) tw_195 (rmI hs ho0) (Or.inr ⟨_, rfl⟩) (rmP_7 hs ho0) ?_
    refine sp_aload_n dX5_addPerson_35 rfl rfl ?_
    refine sp_getI (RX5, TX5, 16) dX5_addPerson_36 clX5 (j := 8) (by decide) tw_200 (rmI hs ho0) (Or.inl rfl) ?_
    refine sp_iconst (v := 0) dX5_addPerson_39 (by decide) ?_
    obtain ⟨j6, hj6, h⟩ := Option.bind_eq_some_iff.mp h
    obtain ⟨M7, hM7, h⟩ := sp_do_e h
    refine sp_iast2 (j := j6) hG dX5_addPerson_40 (rmA_7 hs ho0) (rmN_7 hs ho0) hj6 hM7 ?_
    refine sp_aload_n dX5_addPerson_41 rfl rfl ?_
    refine sp_dup dX5_addPerson_42 rfl ?_
    refine sp_use (fun ho => ?_)
    have hs := hG.1 _ ho
    refine sp_getI (RX5, TX5, 16) dX5_addPerson_43 clX5 (j := 8) (by decide) tw_200 (rmI hs ho0) (Or.inl rfl) ?_
    refine sp_dup_x1 dX5_addPerson_46 rfl rfl ?_
    refine sp_iconst (v := 1) dX5_addPerson_47 (by decide) ?_
    refine sp_iadd dX5_addPerson_48 ?_
    obtain ⟨M8, hM8, h⟩ := sp_do_e h
    refine sp_putI2 (RX5, TX5, 16) hG dX5_addPerson_49 clX5 (j := 8) (by decide) tw_200 rfl (Or.inl rfl) (rmI hs ho0) hM8 ?_
    cases h
    exact sp_iret dX5_addPerson_52 (ty := .int) rfl rfl (fun _ => hQ)
  · have h := (if_neg hc1).symm.trans h
    refine sp_bipush (v := (-5)) dX5_addPerson_8 (by decide) ?_
    cases h
    exact sp_iret dX5_addPerson_10 (ty := .int) rfl rfl (fun _ => hQ)
def fX5_addAnswer (M : sp_Mem) (o0 : Nat) (a1 : Int32) (a2 : Int32) : Option (Int32 × sp_Mem) :=
  if (sp_I M o0 11) < 6 then ((sp_ix 6 (sp_I M o0 11)).bind fun j2 => sp_do (sp_setI M (o0 + 8) j2 a1) fun M3 => (sp_ix 6 (sp_I M3 o0 11)).bind fun j4 => sp_do (sp_setI M3 (o0 + 9) j4 a2) fun M5 => sp_do (sp_setI M5 o0 11 ((sp_I M5 o0 11) + 1)) fun M6 => some ((sp_I M6 o0 11), M6)) else (some ((-5), M))
set_option maxRecDepth 100000 in
set_option maxHeartbeats 4000000 in
theorem tX5_addAnswer {g : sp_G} {Ω : sp_Mem → Prop} {Q : sp_Qt} {p : (Int32 × sp_Mem)} (hG : sp_Ok Ω) {o0 : Nat} (ho0 : sp_room o0) {M : sp_Mem} {a1 : Int32} {a2 : Int32} (h : fX5_addAnswer M o0 a1 a2 = some p) (hQ : Q (some (.int p.1)) p.2) : sp_Mt g Ω mX5_addAnswer 0 0 [.ref o0, .int a1, .int a2] M Q := by
  unfold fX5_addAnswer at h
  refine sp_Mt.of [some (.ref o0), some (.int a1), some (.int a2)] (by decide) (by simp [sp_ent, Value.category]) rfl ?_
  refine sp_aload_n dX5_addAnswer_0 rfl rfl ?_
  refine sp_use (fun ho => ?_)
  have hs := hG.1 _ ho
  refine sp_getI (RX5, TX5, 16) dX5_addAnswer_1 clX5 (j := 11) (by decide) tw_208 (rmI hs ho0) (Or.inl rfl) ?_
  refine sp_bipush (v := 6) dX5_addAnswer_4 (by decide) ?_
  refine sp_icmp_lt (tgt := 12) dX5_addAnswer_6 (by decide) (fun hc1 => ?_) (fun hc1 => ?_)
  · have h := (if_pos hc1).symm.trans h
    refine sp_aload_n dX5_addAnswer_12 rfl rfl ?_
    refine sp_getR (RX5, TX5, 16) dX5_addAnswer_13 clX5 (j := 9) (by decide) tw_203 (rmI hs ho0) (Or.inr ⟨_, rfl⟩) (rmP_9 hs ho0) ?_
    refine sp_aload_n dX5_addAnswer_16 rfl rfl ?_
    refine sp_getI (RX5, TX5, 16) dX5_addAnswer_17 clX5 (j := 11) (by decide) tw_208 (rmI hs ho0) (Or.inl rfl) ?_
    refine sp_iload_n dX5_addAnswer_20 rfl rfl ?_
    obtain ⟨j2, hj2, h⟩ := Option.bind_eq_some_iff.mp h
    obtain ⟨M3, hM3, h⟩ := sp_do_e h
    refine sp_iast2 (j := j2) hG dX5_addAnswer_21 (rmA_8 hs ho0) (rmN_8 hs ho0) hj2 hM3 ?_
    refine sp_aload_n dX5_addAnswer_22 rfl rfl ?_
    refine sp_use (fun ho => ?_)
    have hs := hG.1 _ ho
    refine sp_getR (RX5, TX5, 16) dX5_addAnswer_23 clX5 (j := 10) (by decide) tw_205 (rmI hs ho0) (Or.inr ⟨_, rfl⟩) (rmP_10 hs ho0) ?_
    refine sp_aload_n dX5_addAnswer_26 rfl rfl ?_
    refine sp_getI (RX5, TX5, 16) dX5_addAnswer_27 clX5 (j := 11) (by decide) tw_208 (rmI hs ho0) (Or.inl rfl) ?_
    refine sp_iload_n dX5_addAnswer_30 rfl rfl ?_
    obtain ⟨j4, hj4, h⟩ := Option.bind_eq_some_iff.mp h
    obtain ⟨M5, hM5, h⟩ := sp_do_e h
    refine sp_iast2 (j := j4) hG dX5_addAnswer_31 (rmA_9 hs ho0) (rmN_9 hs ho0) hj4 hM5 ?_
    refine sp_aload_n dX5_addAnswer_32 rfl rfl ?_
    refine sp_dup dX5_addAnswer_33 rfl ?_
    refine sp_use (fun ho => ?_)
    have hs := hG.1 _ ho
    refine sp_getI (RX5, TX5, 16) dX5_addAnswer_34 clX5 (j := 11) (by decide) tw_208 (rmI hs ho0) (Or.inl rfl) ?_
    refine sp_iconst (v := 1) dX5_addAnswer_37 (by decide) ?_
    refine sp_iadd dX5_addAnswer_38 ?_
    obtain ⟨M6, hM6, h⟩ := sp_do_e h
    refine sp_putI2 (RX5, TX5, 16) hG dX5_addAnswer_39 clX5 (j := 11) (by decide) tw_208 rfl (Or.inl rfl) (rmI hs ho0) hM6 ?_
    refine sp_aload_n dX5_addAnswer_42 rfl rfl ?_
    refine sp_use (fun ho => ?_)
    have hs := hG.1 _ ho
    refine sp_getI (RX5, TX5, 16) dX5_addAnswer_43 clX5 (j := 11) (by decide) tw_208 (rmI hs ho0) (Or.inl rfl) ?_
    cases h
    exact sp_iret dX5_addAnswer_46 (ty := .int) rfl rfl (fun _ => hQ)
  · have h := (if_neg hc1).symm.trans h
    refine sp_bipush (v := (-5)) dX5_addAnswer_9 (by decide) ?_
    cases h
    exact sp_iret dX5_addAnswer_11 (ty := .int) rfl rfl (fun _ => hQ)
def fX5_addLaw (M : sp_Mem) (o0 : Nat) (o1 : Nat) : Option (Int32 × sp_Mem) :=
  if (sp_I M o0 14) < 6 then ((sp_ix 6 (sp_I M o0 14)).bind fun j2 => sp_do (sp_setP M (o0 + 11) j2 (some o1)) fun M3 => sp_do (sp_setI M3 o0 14 ((sp_I M3 o0 14) + 1)) fun M4 => some ((sp_I M3 o0 14), M4)) else (some ((-5), M))
set_option maxRecDepth 100000 in
set_option maxHeartbeats 4000000 in
theorem tX5_addLaw {g : sp_G} {Ω : sp_Mem → Prop} {Q : sp_Qt} {p : (Int32 × sp_Mem)} (hG : sp_Ok Ω) {o0 : Nat} (ho0 : sp_room o0) {o1 : Nat} (ho1 : ∀ M, Ω M → sp_text M o1) {M : sp_Mem} (h : fX5_addLaw M o0 o1 = some p) (hQ : Q (some (.int p.1)) p.2) : sp_Mt g Ω mX5_addLaw 0 0 [.ref o0, .ref o1] M Q := by
  unfold fX5_addLaw at h
  refine sp_Mt.of [some (.ref o0), some (.ref o1)] (by decide) (by simp [sp_ent, Value.category]) rfl ?_
  refine sp_aload_n dX5_addLaw_0 rfl rfl ?_
  refine sp_use (fun ho => ?_)
  have hs := hG.1 _ ho
  refine sp_getI (RX5, TX5, 16) dX5_addLaw_1 clX5 (j := 14) (by decide) tw_216 (rmI hs ho0) (Or.inl rfl) ?_
  refine sp_bipush (v := 6) dX5_addLaw_4 (by decide) ?_
  refine sp_icmp_lt (tgt := 12) dX5_addLaw_6 (by decide) (fun hc1 => ?_) (fun hc1 => ?_)
  · have h := (if_pos hc1).symm.trans h
    refine sp_aload_n dX5_addLaw_12 rfl rfl ?_
    refine sp_getR (RX5, TX5, 16) dX5_addLaw_13 clX5 (j := 13) (by decide) tw_215 (rmI hs ho0) (Or.inr ⟨_, rfl⟩) (rmP_13 hs ho0) ?_
    refine sp_aload_n dX5_addLaw_16 rfl rfl ?_
    refine sp_getI (RX5, TX5, 16) dX5_addLaw_17 clX5 (j := 14) (by decide) tw_216 (rmI hs ho0) (Or.inl rfl) ?_
    refine sp_aload_n dX5_addLaw_20 rfl rfl ?_
    obtain ⟨j2, hj2, h⟩ := Option.bind_eq_some_iff.mp h
    obtain ⟨M3, hM3, h⟩ := sp_do_e h
    refine sp_aast2 (x := (some o1)) (j := j2) hG dX5_addLaw_21 ho0 (rmA_11 hs ho0) (rmN_11 hs ho0) hj2 (fun t ht => by cases ht; exact ho1 _ ho) hM3 ?_
    refine sp_aload_n dX5_addLaw_22 rfl rfl ?_
    refine sp_dup dX5_addLaw_23 rfl ?_
    refine sp_use (fun ho => ?_)
    have hs := hG.1 _ ho
    refine sp_getI (RX5, TX5, 16) dX5_addLaw_24 clX5 (j := 14) (by decide) tw_216 (rmI hs ho0) (Or.inl rfl) ?_
    refine sp_dup_x1 dX5_addLaw_27 rfl rfl ?_
    refine sp_iconst (v := 1) dX5_addLaw_28 (by decide) ?_
    refine sp_iadd dX5_addLaw_29 ?_
    obtain ⟨M4, hM4, h⟩ := sp_do_e h
    refine sp_putI2 (RX5, TX5, 16) hG dX5_addLaw_30 clX5 (j := 14) (by decide) tw_216 rfl (Or.inl rfl) (rmI hs ho0) hM4 ?_
    cases h
    exact sp_iret dX5_addLaw_33 (ty := .int) rfl rfl (fun _ => hQ)
  · have h := (if_neg hc1).symm.trans h
    refine sp_bipush (v := (-5)) dX5_addLaw_9 (by decide) ?_
    cases h
    exact sp_iret dX5_addLaw_11 (ty := .int) rfl rfl (fun _ => hQ)
def fX5_wetCell (M : sp_Mem) (o0 : Nat) (a1 : Int32) : Option (Int32 × sp_Mem) :=
  if (fX10_isCell a1) = 0 then (some ((-1), M)) else ((sp_ix 25 a1).bind fun j2 => sp_do ((sp_I M (o0 + 1) j2)) fun u3 => if u3 = 1 then (some ((-3), M)) else (if u3 = 3 then (some ((-3), M)) else ((sp_ix 25 a1).bind fun j6 => sp_do (sp_setI M (o0 + 1) j6 1) fun M7 => some (u3, M7))))
set_option maxRecDepth 100000 in
set_option maxHeartbeats 4000000 in
theorem tX5_wetCell {g : sp_G} {Ω : sp_Mem → Prop} {Q : sp_Qt} {p : (Int32 × sp_Mem)} (hG : sp_Ok Ω) {o0 : Nat} (ho0 : sp_room o0) {M : sp_Mem} {a1 : Int32} (h : fX5_wetCell M o0 a1 = some p) (hQ : Q (some (.int p.1)) p.2) : sp_Mt g Ω mX5_wetCell 0 0 [.ref o0, .int a1] M Q := by
  unfold fX5_wetCell at h
  refine sp_Mt.of [some (.ref o0), some (.int a1), none] (by decide) (by simp [sp_ent, Value.category]) rfl ?_
  refine sp_iload_n dX5_wetCell_0 rfl rfl ?_
  refine sp_use (fun ho => ?_)
  have hs := hG.1 _ ho
  refine sp_cSN (M1 := M) (r := some (.int (fX10_isCell a1))) (st := []) [.int a1] [.int a1] [.int (fX10_isCell a1)] dX5_wetCell_1 okX10_isCell (by decide +kernel) tw_469 (by decide) (by decide) rfl (Nat.le_of_ble_eq_true rfl) rfl rfl (fun Q hQ => tX10_isCell hG rfl hQ) ?_
  refine sp_if_ne (tgt := 9) dX5_wetCell_4 (by decide) (fun hc1 => ?_) (fun hc1 => ?_)
  · have h := (if_neg hc1).symm.trans h
    refine sp_aload_n dX5_wetCell_9 rfl rfl ?_
    refine sp_getR (RX5, TX5, 16) dX5_wetCell_10 clX5 (j := 0) (by decide) tw_165 (rmI hs ho0) (Or.inr ⟨_, rfl⟩) (rmP_0 hs ho0) ?_
    refine sp_iload_n dX5_wetCell_13 rfl rfl ?_
    obtain ⟨j2, hj2, h⟩ := Option.bind_eq_some_iff.mp h
    refine sp_iald2 (j := j2) dX5_wetCell_14 (rmA_1 hs ho0) (rmN_1 hs ho0) hj2 ?_
    obtain ⟨u3, hu3, h⟩ := sp_do_e h
    refine sp_topi hu3 ?_
    refine sp_istore_n [some (.ref o0), some (.int a1), some (.int u3)] dX5_wetCell_15 rfl (by decide) rfl ?_
    refine sp_iload_n dX5_wetCell_16 rfl rfl ?_
    refine sp_iconst (v := 1) dX5_wetCell_17 (by decide) ?_
    refine sp_icmp_eq (tgt := 26) dX5_wetCell_18 (by decide) (fun hc4 => ?_) (fun hc4 => ?_)
    · have h := (if_pos hc4).symm.trans h
      refine sp_bipush (v := (-3)) dX5_wetCell_26 (by decide) ?_
      cases h
      exact sp_iret dX5_wetCell_28 (ty := .int) rfl rfl (fun _ => hQ)
    · have h := (if_neg hc4).symm.trans h
      refine sp_iload_n dX5_wetCell_21 rfl rfl ?_
      refine sp_iconst (v := 3) dX5_wetCell_22 (by decide) ?_
      refine sp_icmp_ne (tgt := 29) dX5_wetCell_23 (by decide) (fun hc5 => ?_) (fun hc5 => ?_)
      · have h := (if_neg hc5).symm.trans h
        refine sp_aload_n dX5_wetCell_29 rfl rfl ?_
        refine sp_getR (RX5, TX5, 16) dX5_wetCell_30 clX5 (j := 0) (by decide) tw_165 (rmI hs ho0) (Or.inr ⟨_, rfl⟩) (rmP_0 hs ho0) ?_
        refine sp_iload_n dX5_wetCell_33 rfl rfl ?_
        refine sp_iconst (v := 1) dX5_wetCell_34 (by decide) ?_
        obtain ⟨j6, hj6, h⟩ := Option.bind_eq_some_iff.mp h
        obtain ⟨M7, hM7, h⟩ := sp_do_e h
        refine sp_iast2 (j := j6) hG dX5_wetCell_35 (rmA_1 hs ho0) (rmN_1 hs ho0) hj6 hM7 ?_
        refine sp_iload_n dX5_wetCell_36 rfl rfl ?_
        cases h
        exact sp_iret dX5_wetCell_37 (ty := .int) rfl rfl (fun _ => hQ)
      · have h := (if_pos hc5).symm.trans h
        refine sp_bipush (v := (-3)) dX5_wetCell_26 (by decide) ?_
        cases h
        exact sp_iret dX5_wetCell_28 (ty := .int) rfl rfl (fun _ => hQ)
  · have h := (if_pos hc1).symm.trans h
    refine sp_iconst (v := (-1)) dX5_wetCell_7 (by decide) ?_
    cases h
    exact sp_iret dX5_wetCell_8 (ty := .int) rfl rfl (fun _ => hQ)
def fX6_isShunned (F : Nat) (M : sp_Mem) (o1 : Nat) (a2 : Int32) (a3 : Int32) (a4 : Int32) : Option (Int32 × sp_Mem) :=
  (fX6_toldBy F M o1 2 a2 a3 a4).bind fun x1 => some ((if x1.1 = (-2000000000) then 0 else 1), x1.2)
set_option maxRecDepth 100000 in
set_option maxHeartbeats 4000000 in
theorem tX6_isShunned {g : sp_G} {Ω : sp_Mem → Prop} {Q : sp_Qt} {F : Nat} {p : (Int32 × sp_Mem)} (hG : sp_Ok Ω) {o1 : Nat} (ho1 : sp_room o1) {M : sp_Mem} {a2 : Int32} {a3 : Int32} {a4 : Int32} (h : fX6_isShunned F M o1 a2 a3 a4 = some p) (hQ : Q (some (.int p.1)) p.2) : sp_Mt g Ω mX6_isShunned 0 0 [.ref 1, .ref o1, .int a2, .int a3, .int a4] M Q := by
  unfold fX6_isShunned at h
  refine sp_Mt.of [some (.ref 1), some (.ref o1), some (.int a2), some (.int a3), some (.int a4)] (by decide) (by simp [sp_ent, Value.category]) rfl ?_
  refine sp_aload_n dX6_isShunned_0 rfl rfl ?_
  refine sp_aload_n dX6_isShunned_1 rfl rfl ?_
  refine sp_iconst (v := 2) dX6_isShunned_2 (by decide) ?_
  refine sp_iload_n dX6_isShunned_3 rfl rfl ?_
  refine sp_iload_n dX6_isShunned_4 rfl rfl ?_
  refine sp_iload dX6_isShunned_5 rfl ?_
  refine sp_use (fun ho => ?_)
  have hs := hG.1 _ ho
  obtain ⟨x1, hx1, h⟩ := Option.bind_eq_some_iff.mp h
  refine sp_cV (M1 := x1.2) (r := some (.int x1.1)) (o := 1) (st := []) (c := 5) (RX6, TX6, 2) [.ref o1, .int 2, .int a2, .int a3, .int a4] [.int a4, .int a3, .int a2, .int 2, .ref o1, .ref 1] [.int x1.1] dX6_isShunned_7 okX6_toldBy tw_502 tw_504 tw_2 (by decide) (by decide) rfl (Nat.le_of_ble_eq_true rfl) rfl rfl rfl rfl (wsI_1 hs) (fun Q hQ => tX6_toldBy hG ho1 hx1 hQ) ?_
  refine sp_ldc (v := (-2000000000)) dX6_isShunned_10 tw_515 ?_
  suffices hj : sp_Wp g Ω mX6_isShunned 0 0 20 [none, none, none, none, none] [.int (if x1.1 = (-2000000000) then 0 else 1)] x1.2 Q by
    refine sp_icmp_eq (tgt := 19) dX6_isShunned_12 (by decide) (fun hc2 => ?_) (fun hc2 => ?_)
    · refine sp_iconst (v := 0) dX6_isShunned_19 (by decide) ?_
      refine sp_weak [false, false, false, false, false] [none, none, none, none, none] rfl ?_
      simp only [if_pos hc2] at hj
      exact hj
    · refine sp_iconst (v := 1) dX6_isShunned_15 (by decide) ?_
      refine sp_goto (tgt := 20) dX6_isShunned_16 (by decide) ?_
      refine sp_weak [false, false, false, false, false] [none, none, none, none, none] rfl ?_
      simp only [if_neg hc2] at hj
      exact hj
  cases h
  exact sp_iret dX6_isShunned_20 (ty := .boolean) rfl (sp_nz (by repeat (first | exact Or.inl rfl | exact Or.inr rfl | split))) (fun _ => hQ)
def fX6_isSo (F : Nat) (M : sp_Mem) (o1 : Nat) (a2 : Int32) (o3 : Nat) : Option (Int32 × sp_Mem) :=
  (fX9_slot M o1 a2 4).bind fun v1 => if v1 = (-1) then (some (1, M)) else ((fX0_value F M o1 v1 o3).bind fun x3 => some ((if x3.1 = 1 then 1 else 0), x3.2))
set_option maxRecDepth 100000 in
set_option maxHeartbeats 4000000 in
theorem tX6_isSo {g : sp_G} {Ω : sp_Mem → Prop} {Q : sp_Qt} {F : Nat} {p : (Int32 × sp_Mem)} (hG : sp_Ok Ω) {o1 : Nat} (ho1 : ∀ M, Ω M → sp_text M o1) {o3 : Nat} (ho3 : sp_words o3) {M : sp_Mem} {a2 : Int32} (h : fX6_isSo F M o1 a2 o3 = some p) (hQ : Q (some (.int p.1)) p.2) : sp_Mt g Ω mX6_isSo 0 0 [.ref 1, .ref o1, .int a2, .ref o3] M Q := by
  unfold fX6_isSo at h
  refine sp_Mt.of [some (.ref 1), some (.ref o1), some (.int a2), some (.ref o3), none] (by decide) (by simp [sp_ent, Value.category]) rfl ?_
  refine sp_aload_n dX6_isSo_0 rfl rfl ?_
  refine sp_iload_n dX6_isSo_1 rfl rfl ?_
  refine sp_iconst (v := 4) dX6_isSo_2 (by decide) ?_
  refine sp_use (fun ho => ?_)
  have hs := hG.1 _ ho
  obtain ⟨v1, hv1, h⟩ := Option.bind_eq_some_iff.mp h
  refine sp_cV (M1 := M) (r := some (.int v1)) (o := o1) (st := []) (c := 8) (RX9, TX9, 4) [.int a2, .int 4] [.int 4, .int a2, .ref o1] [.int v1] dX6_isSo_3 okX9_slot tw_524 tw_525 tw_526 (by decide) (by decide) rfl (Nat.le_of_ble_eq_true rfl) rfl rfl rfl rfl (ho1 _ ho).1 (fun Q hQ => tX9_slot hG ho1 hv1 hQ) ?_
  refine sp_istore [some (.ref 1), some (.ref o1), some (.int a2), some (.ref o3), some (.int v1)] dX6_isSo_6 (by decide) rfl ?_
  refine sp_iload dX6_isSo_8 rfl ?_
  refine sp_iconst (v := (-1)) dX6_isSo_10 (by decide) ?_
  refine sp_icmp_eq (tgt := 29) dX6_isSo_11 (by decide) (fun hc2 => ?_) (fun hc2 => ?_)
  · have h := (if_pos hc2).symm.trans h
    refine sp_iconst (v := 1) dX6_isSo_29 (by decide) ?_
    refine sp_goto (tgt := 34) dX6_isSo_30 (by decide) ?_
    cases h
    exact sp_iret dX6_isSo_34 (ty := .boolean) rfl (sp_nz (Or.inr rfl)) (fun _ => hQ)
  · have h := (if_neg hc2).symm.trans h
    refine sp_aload_n dX6_isSo_14 rfl rfl ?_
    refine sp_getR (RX6, TX6, 2) dX6_isSo_15 clX6 (j := 0) (by decide) tw_144 (wsI_1 hs) (Or.inl ⟨_, rfl⟩) (wsP_1_0 hs) ?_
    refine sp_aload_n dX6_isSo_18 rfl rfl ?_
    refine sp_iload dX6_isSo_19 rfl ?_
    refine sp_aload_n dX6_isSo_21 rfl rfl ?_
    obtain ⟨x3, hx3, h⟩ := Option.bind_eq_some_iff.mp h
    refine sp_cV (M1 := x3.2) (r := some (.int x3.1)) (o := 2) (st := []) (c := 0) (RX0, TX0, 1) [.ref o1, .int v1, .ref o3] [.ref o3, .int v1, .ref o1, .ref 2] [.int x3.1] dX6_isSo_22 okX0_value tw_528 tw_529 tw_530 (by decide) (by decide) rfl (Nat.le_of_ble_eq_true rfl) rfl rfl rfl rfl (wsI_2 hs) (fun Q hQ => tX0_value hG ho1 ho3 hx3 hQ) ?_
    refine sp_iconst (v := 1) dX6_isSo_25 (by decide) ?_
    suffices hj : sp_Wp g Ω mX6_isSo 0 0 34 [none, none, none, none, none] [.int (if x3.1 = 1 then 1 else 0)] x3.2 Q by
      refine sp_icmp_ne (tgt := 33) dX6_isSo_26 (by decide) (fun hc4 => ?_) (fun hc4 => ?_)
      · refine sp_iconst (v := 0) dX6_isSo_33 (by decide) ?_
        refine sp_weak [false, false, false, false, false] [none, none, none, none, none] rfl ?_
        simp only [if_neg hc4] at hj
        exact hj
      · refine sp_iconst (v := 1) dX6_isSo_29 (by decide) ?_
        refine sp_goto (tgt := 34) dX6_isSo_30 (by decide) ?_
        refine sp_weak [false, false, false, false, false] [none, none, none, none, none] rfl ?_
        simp only [if_pos hc4] at hj
        exact hj
    cases h
    exact sp_iret dX6_isSo_34 (ty := .boolean) rfl (sp_nz (by repeat (first | exact Or.inl rfl | exact Or.inr rfl | split))) (fun _ => hQ)
def fX6_sumOf (F : Nat) (M : sp_Mem) (o1 : Nat) (a2 : Int32) (a3 : Int32) (o4 : Nat) : Option (Int32 × sp_Mem) :=
  (fX9_slot M o1 a2 a3).bind fun v1 => if v1 = (-1) then (some (0, M)) else ((fX0_value F M o1 v1 o4).bind fun x3 => some (x3.1, x3.2))
set_option maxRecDepth 100000 in
set_option maxHeartbeats 4000000 in
theorem tX6_sumOf {g : sp_G} {Ω : sp_Mem → Prop} {Q : sp_Qt} {F : Nat} {p : (Int32 × sp_Mem)} (hG : sp_Ok Ω) {o1 : Nat} (ho1 : ∀ M, Ω M → sp_text M o1) {o4 : Nat} (ho4 : sp_words o4) {M : sp_Mem} {a2 : Int32} {a3 : Int32} (h : fX6_sumOf F M o1 a2 a3 o4 = some p) (hQ : Q (some (.int p.1)) p.2) : sp_Mt g Ω mX6_sumOf 0 0 [.ref 1, .ref o1, .int a2, .int a3, .ref o4] M Q := by
  unfold fX6_sumOf at h
  refine sp_Mt.of [some (.ref 1), some (.ref o1), some (.int a2), some (.int a3), some (.ref o4), none] (by decide) (by simp [sp_ent, Value.category]) rfl ?_
  refine sp_aload_n dX6_sumOf_0 rfl rfl ?_
  refine sp_iload_n dX6_sumOf_1 rfl rfl ?_
  refine sp_iload_n dX6_sumOf_2 rfl rfl ?_
  refine sp_use (fun ho => ?_)
  have hs := hG.1 _ ho
  obtain ⟨v1, hv1, h⟩ := Option.bind_eq_some_iff.mp h
  refine sp_cV (M1 := M) (r := some (.int v1)) (o := o1) (st := []) (c := 8) (RX9, TX9, 4) [.int a2, .int a3] [.int a3, .int a2, .ref o1] [.int v1] dX6_sumOf_3 okX9_slot tw_524 tw_525 tw_526 (by decide) (by decide) rfl (Nat.le_of_ble_eq_true rfl) rfl rfl rfl rfl (ho1 _ ho).1 (fun Q hQ => tX9_slot hG ho1 hv1 hQ) ?_
  refine sp_istore [some (.ref 1), some (.ref o1), some (.int a2), some (.int a3), some (.ref o4), some (.int v1)] dX6_sumOf_6 (by decide) rfl ?_
  refine sp_iload dX6_sumOf_8 rfl ?_
  refine sp_iconst (v := (-1)) dX6_sumOf_10 (by decide) ?_
  refine sp_icmp_ne (tgt := 18) dX6_sumOf_11 (by decide) (fun hc2 => ?_) (fun hc2 => ?_)
  · have h := (if_neg hc2).symm.trans h
    refine sp_aload_n dX6_sumOf_18 rfl rfl ?_
    refine sp_getR (RX6, TX6, 2) dX6_sumOf_19 clX6 (j := 0) (by decide) tw_144 (wsI_1 hs) (Or.inl ⟨_, rfl⟩) (wsP_1_0 hs) ?_
    refine sp_aload_n dX6_sumOf_22 rfl rfl ?_
    refine sp_iload dX6_sumOf_23 rfl ?_
    refine sp_aload dX6_sumOf_25 rfl ?_
    obtain ⟨x3, hx3, h⟩ := Option.bind_eq_some_iff.mp h
    refine sp_cV (M1 := x3.2) (r := some (.int x3.1)) (o := 2) (st := []) (c := 0) (RX0, TX0, 1) [.ref o1, .int v1, .ref o4] [.ref o4, .int v1, .ref o1, .ref 2] [.int x3.1] dX6_sumOf_27 okX0_value tw_528 tw_529 tw_530 (by decide) (by decide) rfl (Nat.le_of_ble_eq_true rfl) rfl rfl rfl rfl (wsI_2 hs) (fun Q hQ => tX0_value hG ho1 ho4 hx3 hQ) ?_
    cases h
    exact sp_iret dX6_sumOf_30 (ty := .int) rfl rfl (fun _ => hQ)
  · have h := (if_pos hc2).symm.trans h
    refine sp_iconst (v := 0) dX6_sumOf_14 (by decide) ?_
    refine sp_goto (tgt := 30) dX6_sumOf_15 (by decide) ?_
    cases h
    exact sp_iret dX6_sumOf_30 (ty := .int) rfl rfl (fun _ => hQ)
def fX7_copyFrom (F : Nat) (M : sp_Mem) (o0 : Nat) (o1 : Nat) : Option sp_Mem :=
  (fX5_copyFrom F M (o0 + 1) (o1 + 1)).bind fun M1 => (fX3_copyFrom M1 (o0 + 13) (o1 + 13)).bind fun M2 => some M2
set_option maxRecDepth 100000 in
set_option maxHeartbeats 4000000 in
theorem tX7_copyFrom {g : sp_G} {Ω : sp_Mem → Prop} {Q : sp_Qt} {F : Nat} {p : sp_Mem} (hG : sp_Ok Ω) {o0 : Nat} (ho0 : sp_stage o0) {o1 : Nat} (ho1 : sp_stage o1) {M : sp_Mem} (h : fX7_copyFrom F M o0 o1 = some p) (hQ : Q none p) : sp_Mt g Ω mX7_copyFrom 0 0 [.ref o0, .ref o1] M Q := by
  unfold fX7_copyFrom at h
  refine sp_Mt.of [some (.ref o0), some (.ref o1)] (by decide) (by simp [sp_ent, Value.category]) rfl ?_
  refine sp_aload_n dX7_copyFrom_0 rfl rfl ?_
  refine sp_use (fun ho => ?_)
  have hs := hG.1 _ ho
  refine sp_getR (RX7, TX7, 6) dX7_copyFrom_1 clX7 (j := 0) (by decide) tw_274 (sgI hs ho0) (Or.inl ⟨_, rfl⟩) (sgP_0 hs ho0) ?_
  refine sp_aload_n dX7_copyFrom_4 rfl rfl ?_
  refine sp_getR (RX7, TX7, 6) dX7_copyFrom_5 clX7 (j := 0) (by decide) tw_274 (sgI hs ho1) (Or.inl ⟨_, rfl⟩) (sgP_0 hs ho1) ?_
  obtain ⟨M1, hM1, h⟩ := Option.bind_eq_some_iff.mp h
  refine sp_cV (M1 := M1) (r := none) (o := (o0 + 1)) (st := []) (c := 4) (RX5, TX5, 16) [.ref (o1 + 1)] [.ref (o1 + 1), .ref (o0 + 1)] [] dX7_copyFrom_8 okX5_copyFrom tw_851 tw_852 tw_853 (by decide) (by decide) rfl (Nat.le_of_ble_eq_true rfl) rfl rfl rfl rfl (rmI hs (sg_room ho0)) (fun Q hQ => tX5_copyFrom hG (sg_room ho0) (sg_room ho1) hM1 hQ) ?_
  refine sp_aload_n dX7_copyFrom_11 rfl rfl ?_
  refine sp_use (fun ho => ?_)
  have hs := hG.1 _ ho
  refine sp_getR (RX7, TX7, 6) dX7_copyFrom_12 clX7 (j := 1) (by decide) tw_276 (sgI hs ho0) (Or.inl ⟨_, rfl⟩) (sgP_1 hs ho0) ?_
  refine sp_aload_n dX7_copyFrom_15 rfl rfl ?_
  refine sp_getR (RX7, TX7, 6) dX7_copyFrom_16 clX7 (j := 1) (by decide) tw_276 (sgI hs ho1) (Or.inl ⟨_, rfl⟩) (sgP_1 hs ho1) ?_
  obtain ⟨M2, hM2, h⟩ := Option.bind_eq_some_iff.mp h
  refine sp_cV (M1 := M2) (r := none) (o := (o0 + 13)) (st := []) (c := 3) (RX3, TX3, 4) [.ref (o1 + 13)] [.ref (o1 + 13), .ref (o0 + 13)] [] dX7_copyFrom_19 okX3_copyFrom tw_856 tw_857 tw_858 (by decide) (by decide) rfl (Nat.le_of_ble_eq_true rfl) rfl rfl rfl rfl (paI hs (sg_past ho0)) (fun Q hQ => tX3_copyFrom hG (sg_past ho0) (sg_past ho1) hM2 hQ) ?_
  cases h
  exact sp_vret dX7_copyFrom_22 rfl (fun _ => hQ)
def fX7_perform_j136 (F : Nat) (o0 : Nat) (a1 : Int32) (a4 : Int32) (M : sp_Mem) : Option (Int32 × sp_Mem) :=
  if a4 < 0 then (some (a4, M)) else ((fX3_keep M (o0 + 13) a1).bind fun M5 => some (a4, M5))
def fX7_perform (F : Nat) (M : sp_Mem) (o0 : Nat) (a1 : Int32) (a2 : Int32) (a3 : Int32) : Option (Int32 × sp_Mem) :=
  (fX3_prepare M (o0 + 13) (o0 + 1)).bind fun M1 => if a1 = 0 then ((fX6_callSpark F M1 (o0 + 1) a2 a3).bind fun x3 => fX7_perform_j136 F o0 a1 x3.1 x3.2) else if a1 = 1 then ((fX5_wetCell M1 (o0 + 1) a2).bind fun x7 => fX7_perform_j136 F o0 a1 x7.1 x7.2) else if a1 = 2 then ((fX5_walkPerson M1 (o0 + 1) a2 a3).bind fun x9 => fX7_perform_j136 F o0 a1 x9.1 x9.2) else (if 999 ≤ (sp_I M1 ((o0 + 1) + 10) 0) then (fX7_perform_j136 F o0 a1 (-3) M1) else ((fX6_passMinute F M1 (o0 + 1) 0 ((sp_I M1 (o0 + 1) 4) - 1)).bind fun M11 => sp_do ((sp_I M11 ((o0 + 1) + 10) 0)) fun u12 => fX7_perform_j136 F o0 a1 u12 M11))
set_option maxRecDepth 100000 in
set_option maxHeartbeats 4000000 in
theorem tX7_perform_j136 {g : sp_G} {Ω : sp_Mem → Prop} {Q : sp_Qt} {F : Nat} {p : (Int32 × sp_Mem)} (hG : sp_Ok Ω) {o0 : Nat} (ho0 : sp_stage o0)  (hQ : Q (some (.int p.1)) p.2) (a1 : Int32) (a4 : Int32) (M : sp_Mem) (h : fX7_perform_j136 F o0 a1 a4 M = some p) : sp_Wp g Ω mX7_perform 0 0 136 [some (.ref o0), some (.int a1), none, none, some (.int a4)] [] M Q := by
  unfold fX7_perform_j136 at h
  refine sp_iload dX7_perform_136 rfl ?_
  refine sp_if_lt (tgt := 149) dX7_perform_138 (by decide) (fun hc4 => ?_) (fun hc4 => ?_)
  · have h := (if_pos hc4).symm.trans h
    refine sp_iload dX7_perform_149 rfl ?_
    cases h
    exact sp_iret dX7_perform_151 (ty := .int) rfl rfl (fun _ => hQ)
  · have h := (if_neg hc4).symm.trans h
    refine sp_aload_n dX7_perform_141 rfl rfl ?_
    refine sp_use (fun ho => ?_)
    have hs := hG.1 _ ho
    refine sp_getR (RX7, TX7, 6) dX7_perform_142 clX7 (j := 1) (by decide) tw_276 (sgI hs ho0) (Or.inl ⟨_, rfl⟩) (sgP_1 hs ho0) ?_
    refine sp_iload_n dX7_perform_145 rfl rfl ?_
    obtain ⟨M5, hM5, h⟩ := Option.bind_eq_some_iff.mp h
    refine sp_cV (M1 := M5) (r := none) (o := (o0 + 13)) (st := []) (c := 3) (RX3, TX3, 4) [.int a1] [.int a1, .ref (o0 + 13)] [] dX7_perform_146 okX3_keep tw_936 tw_937 tw_938 (by decide) (by decide) rfl (Nat.le_of_ble_eq_true rfl) rfl rfl rfl rfl (paI hs (sg_past ho0)) (fun Q hQ => tX3_keep hG (sg_past ho0) hM5 hQ) ?_
    refine sp_iload dX7_perform_149 rfl ?_
    cases h
    exact sp_iret dX7_perform_151 (ty := .int) rfl rfl (fun _ => hQ)
set_option maxRecDepth 100000 in
set_option maxHeartbeats 4000000 in
theorem tX7_perform {g : sp_G} {Ω : sp_Mem → Prop} {Q : sp_Qt} {F : Nat} {p : (Int32 × sp_Mem)} (hG : sp_Ok Ω) {o0 : Nat} (ho0 : sp_stage o0) {M : sp_Mem} {a1 : Int32} {a2 : Int32} {a3 : Int32} (h : fX7_perform F M o0 a1 a2 a3 = some p) (hQ : Q (some (.int p.1)) p.2) : sp_Mt g Ω mX7_perform 0 0 [.ref o0, .int a1, .int a2, .int a3] M Q := by
  unfold fX7_perform at h
  refine sp_Mt.of [some (.ref o0), some (.int a1), some (.int a2), some (.int a3), none] (by decide) (by simp [sp_ent, Value.category]) rfl ?_
  refine sp_aload_n dX7_perform_0 rfl rfl ?_
  refine sp_use (fun ho => ?_)
  have hs := hG.1 _ ho
  refine sp_getR (RX7, TX7, 6) dX7_perform_1 clX7 (j := 1) (by decide) tw_276 (sgI hs ho0) (Or.inl ⟨_, rfl⟩) (sgP_1 hs ho0) ?_
  refine sp_aload_n dX7_perform_4 rfl rfl ?_
  refine sp_getR (RX7, TX7, 6) dX7_perform_5 clX7 (j := 0) (by decide) tw_274 (sgI hs ho0) (Or.inl ⟨_, rfl⟩) (sgP_0 hs ho0) ?_
  obtain ⟨M1, hM1, h⟩ := Option.bind_eq_some_iff.mp h
  refine sp_cV (M1 := M1) (r := none) (o := (o0 + 13)) (st := []) (c := 3) (RX3, TX3, 4) [.ref (o0 + 1)] [.ref (o0 + 1), .ref (o0 + 13)] [] dX7_perform_8 okX3_prepare tw_892 tw_893 tw_894 (by decide) (by decide) rfl (Nat.le_of_ble_eq_true rfl) rfl rfl rfl rfl (paI hs (sg_past ho0)) (fun Q hQ => tX3_prepare hG (sg_past ho0) (sg_room ho0) hM1 hQ) ?_
  refine sp_bipush (v := (-3)) dX7_perform_11 (by decide) ?_
  refine sp_istore [some (.ref o0), some (.int a1), some (.int a2), some (.int a3), some (.int (-3))] dX7_perform_13 (by decide) rfl ?_
  refine sp_iload_n dX7_perform_15 rfl rfl ?_
  by_cases hc2 : a1 = 0
  · have h := (if_pos hc2).symm.trans h
    refine sp_tswI (tgt := 44) dX7_perform_16 (by rw [hc2]; decide) (by rw [hc2]; decide) (by rw [hc2]; rfl) (by decide) ?_
    refine sp_aload_n dX7_perform_44 rfl rfl ?_
    refine sp_use (fun ho => ?_)
    have hs := hG.1 _ ho
    refine sp_getR (RX7, TX7, 6) dX7_perform_45 clX7 (j := 2) (by decide) tw_278 (sgI hs ho0) (Or.inl ⟨_, rfl⟩) (sgP_2 hs ho0) ?_
    refine sp_aload_n dX7_perform_48 rfl rfl ?_
    refine sp_getR (RX7, TX7, 6) dX7_perform_49 clX7 (j := 0) (by decide) tw_274 (sgI hs ho0) (Or.inl ⟨_, rfl⟩) (sgP_0 hs ho0) ?_
    refine sp_iload_n dX7_perform_52 rfl rfl ?_
    refine sp_iload_n dX7_perform_53 rfl rfl ?_
    obtain ⟨x3, hx3, h⟩ := Option.bind_eq_some_iff.mp h
    refine sp_cV (M1 := x3.2) (r := some (.int x3.1)) (o := 1) (st := []) (c := 5) (RX6, TX6, 2) [.ref (o0 + 1), .int a2, .int a3] [.int a3, .int a2, .ref (o0 + 1), .ref 1] [.int x3.1] dX7_perform_54 okX6_callSpark tw_904 tw_905 tw_906 (by decide) (by decide) rfl (Nat.le_of_ble_eq_true rfl) rfl rfl rfl rfl (wsI_1 hs) (fun Q hQ => tX6_callSpark hG (sg_room ho0) hx3 hQ) ?_
    refine sp_istore [some (.ref o0), some (.int a1), some (.int a2), some (.int a3), some (.int x3.1)] dX7_perform_57 (by decide) rfl ?_
    refine sp_goto (tgt := 136) dX7_perform_59 (by decide) ?_
    refine sp_weak [true, true, false, false, true] [some (.ref o0), some (.int a1), none, none, some (.int x3.1)] rfl ?_
    exact tX7_perform_j136 hG ho0 hQ _ _ _ h
  have h := (if_neg hc2).symm.trans h
  by_cases hc6 : a1 = 1
  · have h := (if_pos hc6).symm.trans h
    refine sp_tswI (tgt := 62) dX7_perform_16 (by rw [hc6]; decide) (by rw [hc6]; decide) (by rw [hc6]; rfl) (by decide) ?_
    refine sp_aload_n dX7_perform_62 rfl rfl ?_
    refine sp_use (fun ho => ?_)
    have hs := hG.1 _ ho
    refine sp_getR (RX7, TX7, 6) dX7_perform_63 clX7 (j := 0) (by decide) tw_274 (sgI hs ho0) (Or.inl ⟨_, rfl⟩) (sgP_0 hs ho0) ?_
    refine sp_iload_n dX7_perform_66 rfl rfl ?_
    obtain ⟨x7, hx7, h⟩ := Option.bind_eq_some_iff.mp h
    refine sp_cV (M1 := x7.2) (r := some (.int x7.1)) (o := (o0 + 1)) (st := []) (c := 4) (RX5, TX5, 16) [.int a2] [.int a2, .ref (o0 + 1)] [.int x7.1] dX7_perform_67 okX5_wetCell tw_910 tw_911 tw_912 (by decide) (by decide) rfl (Nat.le_of_ble_eq_true rfl) rfl rfl rfl rfl (rmI hs (sg_room ho0)) (fun Q hQ => tX5_wetCell hG (sg_room ho0) hx7 hQ) ?_
    refine sp_istore [some (.ref o0), some (.int a1), some (.int a2), some (.int a3), some (.int x7.1)] dX7_perform_70 (by decide) rfl ?_
    refine sp_goto (tgt := 136) dX7_perform_72 (by decide) ?_
    refine sp_weak [true, true, false, false, true] [some (.ref o0), some (.int a1), none, none, some (.int x7.1)] rfl ?_
    exact tX7_perform_j136 hG ho0 hQ _ _ _ h
  have h := (if_neg hc6).symm.trans h
  by_cases hc8 : a1 = 2
  · have h := (if_pos hc8).symm.trans h
    refine sp_tswI (tgt := 75) dX7_perform_16 (by rw [hc8]; decide) (by rw [hc8]; decide) (by rw [hc8]; rfl) (by decide) ?_
    refine sp_aload_n dX7_perform_75 rfl rfl ?_
    refine sp_use (fun ho => ?_)
    have hs := hG.1 _ ho
    refine sp_getR (RX7, TX7, 6) dX7_perform_76 clX7 (j := 0) (by decide) tw_274 (sgI hs ho0) (Or.inl ⟨_, rfl⟩) (sgP_0 hs ho0) ?_
    refine sp_iload_n dX7_perform_79 rfl rfl ?_
    refine sp_iload_n dX7_perform_80 rfl rfl ?_
    obtain ⟨x9, hx9, h⟩ := Option.bind_eq_some_iff.mp h
    refine sp_cV (M1 := x9.2) (r := some (.int x9.1)) (o := (o0 + 1)) (st := []) (c := 4) (RX5, TX5, 16) [.int a2, .int a3] [.int a3, .int a2, .ref (o0 + 1)] [.int x9.1] dX7_perform_81 okX5_walkPerson tw_915 tw_916 tw_917 (by decide) (by decide) rfl (Nat.le_of_ble_eq_true rfl) rfl rfl rfl rfl (rmI hs (sg_room ho0)) (fun Q hQ => tX5_walkPerson hG (sg_room ho0) hx9 hQ) ?_
    refine sp_istore [some (.ref o0), some (.int a1), some (.int a2), some (.int a3), some (.int x9.1)] dX7_perform_84 (by decide) rfl ?_
    refine sp_goto (tgt := 136) dX7_perform_86 (by decide) ?_
    refine sp_weak [true, true, false, false, true] [some (.ref o0), some (.int a1), none, none, some (.int x9.1)] rfl ?_
    exact tX7_perform_j136 hG ho0 hQ _ _ _ h
  have h := (if_neg hc8).symm.trans h
  have hc2 := sp_ne hc2 (show (0 : Int32).toInt = 0 by decide)
  have hc6 := sp_ne hc6 (show (1 : Int32).toInt = 1 by decide)
  have hc8 := sp_ne hc8 (show (2 : Int32).toInt = 2 by decide)
  refine sp_tswO (tgt := 89) dX7_perform_16 (by omega) (by decide) ?_
  refine sp_aload_n dX7_perform_89 rfl rfl ?_
  refine sp_use (fun ho => ?_)
  have hs := hG.1 _ ho
  refine sp_getR (RX7, TX7, 6) dX7_perform_90 clX7 (j := 0) (by decide) tw_274 (sgI hs ho0) (Or.inl ⟨_, rfl⟩) (sgP_0 hs ho0) ?_
  refine sp_getR (RX5, TX5, 16) dX7_perform_93 clX5 (j := 12) (by decide) tw_212 (rmI hs (sg_room ho0)) (Or.inr ⟨_, rfl⟩) (rmP_12 hs (sg_room ho0)) ?_
  refine sp_iconst (v := 0) dX7_perform_96 (by decide) ?_
  refine sp_iald2 (j := 0) dX7_perform_97 (rmA_10 hs (sg_room ho0)) (rmN_10 hs (sg_room ho0)) rfl ?_
  refine sp_sipush (v := 999) dX7_perform_98 (by decide) ?_
  refine sp_icmp_ge (tgt := 136) dX7_perform_101 (by decide) (fun hc10 => ?_) (fun hc10 => ?_)
  · have h := (if_pos hc10).symm.trans h
    refine sp_weak [true, true, false, false, true] [some (.ref o0), some (.int a1), none, none, some (.int (-3))] rfl ?_
    exact tX7_perform_j136 hG ho0 hQ _ _ _ h
  · have h := (if_neg hc10).symm.trans h
    refine sp_aload_n dX7_perform_104 rfl rfl ?_
    refine sp_getR (RX7, TX7, 6) dX7_perform_105 clX7 (j := 2) (by decide) tw_278 (sgI hs ho0) (Or.inl ⟨_, rfl⟩) (sgP_2 hs ho0) ?_
    refine sp_aload_n dX7_perform_108 rfl rfl ?_
    refine sp_getR (RX7, TX7, 6) dX7_perform_109 clX7 (j := 0) (by decide) tw_274 (sgI hs ho0) (Or.inl ⟨_, rfl⟩) (sgP_0 hs ho0) ?_
    refine sp_iconst (v := 0) dX7_perform_112 (by decide) ?_
    refine sp_aload_n dX7_perform_113 rfl rfl ?_
    refine sp_getR (RX7, TX7, 6) dX7_perform_114 clX7 (j := 0) (by decide) tw_274 (sgI hs ho0) (Or.inl ⟨_, rfl⟩) (sgP_0 hs ho0) ?_
    refine sp_getI (RX5, TX5, 16) dX7_perform_117 clX5 (j := 4) (by decide) tw_187 (rmI hs (sg_room ho0)) (Or.inl rfl) ?_
    refine sp_iconst (v := 1) dX7_perform_120 (by decide) ?_
    refine sp_isub dX7_perform_121 ?_
    obtain ⟨M11, hM11, h⟩ := Option.bind_eq_some_iff.mp h
    refine sp_cV (M1 := M11) (r := none) (o := 1) (st := []) (c := 5) (RX6, TX6, 2) [.ref (o0 + 1), .int 0, .int ((sp_I M1 (o0 + 1) 4) - 1)] [.int ((sp_I M1 (o0 + 1) 4) - 1), .int 0, .ref (o0 + 1), .ref 1] [] dX7_perform_122 okX6_passMinute tw_924 tw_925 tw_926 (by decide) (by decide) rfl (Nat.le_of_ble_eq_true rfl) rfl rfl rfl rfl (wsI_1 hs) (fun Q hQ => tX6_passMinute hG (sg_room ho0) hM11 hQ) ?_
    refine sp_aload_n dX7_perform_125 rfl rfl ?_
    refine sp_use (fun ho => ?_)
    have hs := hG.1 _ ho
    refine sp_getR (RX7, TX7, 6) dX7_perform_126 clX7 (j := 0) (by decide) tw_274 (sgI hs ho0) (Or.inl ⟨_, rfl⟩) (sgP_0 hs ho0) ?_
    refine sp_getR (RX5, TX5, 16) dX7_perform_129 clX5 (j := 12) (by decide) tw_212 (rmI hs (sg_room ho0)) (Or.inr ⟨_, rfl⟩) (rmP_12 hs (sg_room ho0)) ?_
    refine sp_iconst (v := 0) dX7_perform_132 (by decide) ?_
    refine sp_iald2 (j := 0) dX7_perform_133 (rmA_10 hs (sg_room ho0)) (rmN_10 hs (sg_room ho0)) rfl ?_
    obtain ⟨u12, hu12, h⟩ := sp_do_e h
    refine sp_topi hu12 ?_
    refine sp_istore [some (.ref o0), some (.int a1), some (.int a2), some (.int a3), some (.int u12)] dX7_perform_134 (by decide) rfl ?_
    refine sp_weak [true, true, false, false, true] [some (.ref o0), some (.int a1), none, none, some (.int u12)] rfl ?_
    exact tX7_perform_j136 hG ho0 hQ _ _ _ h
