def fJ6_bitCount_0f7a4 (a0 : Int32) : Int32 :=
  sp_do ((a0 - (((a0 : Int32).toUInt32 >>> (Int32.toUInt32 1 &&& Int32.toUInt32 31)).toInt32 &&& 1431655765))) fun u1 => sp_do (((u1 &&& 858993459) + (((u1 : Int32).toUInt32 >>> (Int32.toUInt32 2 &&& Int32.toUInt32 31)).toInt32 &&& 858993459))) fun u2 => sp_do (((u2 + ((u2 : Int32).toUInt32 >>> (Int32.toUInt32 4 &&& Int32.toUInt32 31)).toInt32) &&& 252645135)) fun u3 => sp_do ((u3 + ((u3 : Int32).toUInt32 >>> (Int32.toUInt32 8 &&& Int32.toUInt32 31)).toInt32)) fun u4 => sp_do ((u4 + ((u4 : Int32).toUInt32 >>> (Int32.toUInt32 16 &&& Int32.toUInt32 31)).toInt32)) fun u5 => (u5 &&& 63)
set_option maxRecDepth 100000 in
set_option maxHeartbeats 4000000 in
theorem tJ6_bitCount_0f7a4 {g : sp_G} {Ω : sp_Mem → Prop} {Q : sp_Qt} {M0 : sp_Mem} {p : Int32} (hG : sp_Ok Ω) {a0 : Int32} (h : fJ6_bitCount_0f7a4 a0 = p) (hQ : Q (some (.int p)) M0) : sp_Mt g Ω mJ6_bitCount_0f7a4 0 0 [.int a0] M0 Q := by
  unfold fJ6_bitCount_0f7a4 at h
  refine sp_Mt.of [some (.int a0)] (by decide) (by simp [sp_ent, Value.category]) rfl ?_
  refine sp_iload_n dJ6_bitCount_0f7a4_0 rfl rfl ?_
  refine sp_iload_n dJ6_bitCount_0f7a4_1 rfl rfl ?_
  refine sp_iconst (v := 1) dJ6_bitCount_0f7a4_2 (by decide) ?_
  refine sp_iushr dJ6_bitCount_0f7a4_3 ?_
  refine sp_ldcw (v := 1431655765) dJ6_bitCount_0f7a4_4 tw_1056 ?_
  refine sp_iand dJ6_bitCount_0f7a4_7 ?_
  refine sp_isub dJ6_bitCount_0f7a4_8 ?_
  obtain ⟨u1, hu1, h⟩ := sp_do_e h
  refine sp_topi hu1 ?_
  refine sp_istore_n [some (.int u1)] dJ6_bitCount_0f7a4_9 rfl (by decide) rfl ?_
  refine sp_iload_n dJ6_bitCount_0f7a4_10 rfl rfl ?_
  refine sp_ldcw (v := 858993459) dJ6_bitCount_0f7a4_11 tw_1057 ?_
  refine sp_iand dJ6_bitCount_0f7a4_14 ?_
  refine sp_iload_n dJ6_bitCount_0f7a4_15 rfl rfl ?_
  refine sp_iconst (v := 2) dJ6_bitCount_0f7a4_16 (by decide) ?_
  refine sp_iushr dJ6_bitCount_0f7a4_17 ?_
  refine sp_ldcw (v := 858993459) dJ6_bitCount_0f7a4_18 tw_1057 ?_
  refine sp_iand dJ6_bitCount_0f7a4_21 ?_
  refine sp_iadd dJ6_bitCount_0f7a4_22 ?_
  obtain ⟨u2, hu2, h⟩ := sp_do_e h
  refine sp_topi hu2 ?_
  refine sp_istore_n [some (.int u2)] dJ6_bitCount_0f7a4_23 rfl (by decide) rfl ?_
  refine sp_iload_n dJ6_bitCount_0f7a4_24 rfl rfl ?_
  refine sp_iload_n dJ6_bitCount_0f7a4_25 rfl rfl ?_
  refine sp_iconst (v := 4) dJ6_bitCount_0f7a4_26 (by decide) ?_
  refine sp_iushr dJ6_bitCount_0f7a4_27 ?_
  refine sp_iadd dJ6_bitCount_0f7a4_28 ?_
  refine sp_ldcw (v := 252645135) dJ6_bitCount_0f7a4_29 tw_1058 ?_
  refine sp_iand dJ6_bitCount_0f7a4_32 ?_
  obtain ⟨u3, hu3, h⟩ := sp_do_e h
  refine sp_topi hu3 ?_
  refine sp_istore_n [some (.int u3)] dJ6_bitCount_0f7a4_33 rfl (by decide) rfl ?_
  refine sp_iload_n dJ6_bitCount_0f7a4_34 rfl rfl ?_
  refine sp_iload_n dJ6_bitCount_0f7a4_35 rfl rfl ?_
  refine sp_bipush (v := 8) dJ6_bitCount_0f7a4_36 (by decide) ?_
  refine sp_iushr dJ6_bitCount_0f7a4_38 ?_
  refine sp_iadd dJ6_bitCount_0f7a4_39 ?_
  obtain ⟨u4, hu4, h⟩ := sp_do_e h
  refine sp_topi hu4 ?_
  refine sp_istore_n [some (.int u4)] dJ6_bitCount_0f7a4_40 rfl (by decide) rfl ?_
  refine sp_iload_n dJ6_bitCount_0f7a4_41 rfl rfl ?_
  refine sp_iload_n dJ6_bitCount_0f7a4_42 rfl rfl ?_
  refine sp_bipush (v := 16) dJ6_bitCount_0f7a4_43 (by decide) ?_
  refine sp_iushr dJ6_bitCount_0f7a4_45 ?_
  refine sp_iadd dJ6_bitCount_0f7a4_46 ?_
  obtain ⟨u5, hu5, h⟩ := sp_do_e h
  refine sp_topi hu5 ?_
  refine sp_istore_n [some (.int u5)] dJ6_bitCount_0f7a4_47 rfl (by decide) rfl ?_
  refine sp_iload_n dJ6_bitCount_0f7a4_48 rfl rfl ?_
  refine sp_bipush (v := 63) dJ6_bitCount_0f7a4_49 (by decide) ?_
  refine sp_iand dJ6_bitCount_0f7a4_51 ?_
  cases h
  exact sp_iret dJ6_bitCount_0f7a4_52 (ty := .int) rfl rfl (fun _ => hQ)
def fJ7_fill_d0a16_l6 (F : Nat) (o0 : Nat) (kx : sp_Mem → Option sp_Mem) : Nat → Int64 → Int32 → Int32 → sp_Mem → Option sp_Mem
  | 0, _, _, _, _ => none
  | n + 1, a1, a3, a4, M =>
  if a4 ≤ a3 then (kx M) else ((sp_ix 25 a3).bind fun j2 => sp_do (sp_setL M o0 j2 a1) fun M3 => (fJ7_fill_d0a16_l6 F o0 kx n) a1 (a3 + 1) a4 M3)
def fJ7_fill_d0a16 (F : Nat) (M : sp_Mem) (o0 : Nat) (a1 : Int64) : Option sp_Mem :=
  fJ7_fill_d0a16_l6 F o0 (fun M4 => some M4) F a1 0 25 M
set_option maxRecDepth 100000 in
set_option maxHeartbeats 4000000 in
theorem tJ7_fill_d0a16_l6 {g : sp_G} {Ω : sp_Mem → Prop} {Q : sp_Qt} {F : Nat} {p : sp_Mem} (hG : sp_Ok Ω) {o0 : Nat} (ho0 : sp_half o0)  {kx : sp_Mem → Option sp_Mem} (hQ : Q none p) (hx : ∀  (M : sp_Mem), kx M = some p → sp_Wp g Ω mJ7_fill_d0a16 0 0 22 [none, none, none, none, none] [] M Q) : ∀ (n : Nat) (a1 : Int64) (a3 : Int32) (a4 : Int32) (M : sp_Mem), fJ7_fill_d0a16_l6 F o0 kx n a1 a3 a4 M = some p → sp_Wp g Ω mJ7_fill_d0a16 0 0 6 [some (.ref o0), some (.long a1), none, some (.int a3), some (.int a4)] [] M Q := by
  intro n
  induction n with
  | zero =>
    intro a1 a3 a4 M h
    rw [fJ7_fill_d0a16_l6] at h
    cases h
  | succ n ih =>
    intro a1 a3 a4 M h
    rw [fJ7_fill_d0a16_l6] at h
    refine sp_iload_n dJ7_fill_d0a16_6 rfl rfl ?_
    refine sp_iload dJ7_fill_d0a16_7 rfl ?_
    refine sp_icmp_ge (tgt := 22) dJ7_fill_d0a16_9 (by decide) (fun hc1 => ?_) (fun hc1 => ?_)
    · have h := (if_pos hc1).symm.trans h
      refine sp_weak [false, false, false, false, false] [none, none, none, none, none] rfl ?_
      exact hx _ h
    · have h := (if_neg hc1).symm.trans h
      refine sp_aload_n dJ7_fill_d0a16_12 rfl rfl ?_
      refine sp_iload_n dJ7_fill_d0a16_13 rfl rfl ?_
      refine sp_lload_n dJ7_fill_d0a16_14 rfl rfl ?_
      refine sp_use (fun ho => ?_)
      have hs := hG.1 _ ho
      obtain ⟨j2, hj2, h⟩ := Option.bind_eq_some_iff.mp h
      obtain ⟨M3, hM3, h⟩ := sp_do_e h
      refine sp_last2 (j := j2) hG dJ7_fill_d0a16_15 (hfA hs ho0) (hfN hs ho0) hj2 hM3 ?_
      refine sp_iinc (v := (a3 + 1)) [some (.ref o0), some (.long a1), none, some (.int (a3 + 1)), some (.int a4)] dJ7_fill_d0a16_16 rfl rfl (by decide) rfl ?_
      refine sp_goto (tgt := 6) dJ7_fill_d0a16_19 (by decide) ?_
      refine sp_weak [true, true, false, true, true] [some (.ref o0), some (.long a1), none, some (.int (a3 + 1)), some (.int a4)] rfl ?_
      exact ih _ _ _ _ h
set_option maxRecDepth 100000 in
set_option maxHeartbeats 4000000 in
theorem tJ7_fill_d0a16 {g : sp_G} {Ω : sp_Mem → Prop} {Q : sp_Qt} {F : Nat} {p : sp_Mem} (hG : sp_Ok Ω) {o0 : Nat} (ho0 : sp_half o0) {M : sp_Mem} {a1 : Int64} (h : fJ7_fill_d0a16 F M o0 a1 = some p) (hQ : Q none p) : sp_Mt g Ω mJ7_fill_d0a16 0 0 [.ref o0, .long a1] M Q := by
  unfold fJ7_fill_d0a16 at h
  refine sp_Mt.of [some (.ref o0), some (.long a1), none, none, none] (by decide) (by simp [sp_ent, Value.category]) rfl ?_
  refine sp_iconst (v := 0) dJ7_fill_d0a16_0 (by decide) ?_
  refine sp_istore_n [some (.ref o0), some (.long a1), none, some (.int 0), none] dJ7_fill_d0a16_1 rfl (by decide) rfl ?_
  refine sp_aload_n dJ7_fill_d0a16_2 rfl rfl ?_
  refine sp_use (fun ho => ?_)
  have hs := hG.1 _ ho
  refine sp_alen (v := 25) 1 (by decide) dJ7_fill_d0a16_3 (hfA hs ho0) (by rw [(hfN hs ho0)]; decide) ?_
  refine sp_istore [some (.ref o0), some (.long a1), none, some (.int 0), some (.int 25)] dJ7_fill_d0a16_4 (by decide) rfl ?_
  refine sp_weak [true, true, false, true, true] [some (.ref o0), some (.long a1), none, some (.int 0), some (.int 25)] rfl ?_
  refine tJ7_fill_d0a16_l6 hG ho0 hQ (fun M4 h => ?_) F _ _ _ _ h
  cases h
  exact sp_vret dJ7_fill_d0a16_22 rfl (fun _ => hQ)
def fX11_in (a0 : Int64) (a2 : Int64) (a4 : Int64) : Int32 :=
  if a0 < a2 then (0) else ((if a4 < a0 then 0 else 1))
set_option maxRecDepth 100000 in
set_option maxHeartbeats 4000000 in
theorem tX11_in {g : sp_G} {Ω : sp_Mem → Prop} {Q : sp_Qt} {M0 : sp_Mem} {p : Int32} (hG : sp_Ok Ω) {a0 : Int64} {a2 : Int64} {a4 : Int64} (h : fX11_in a0 a2 a4 = p) (hQ : Q (some (.int p)) M0) : sp_Mt g Ω mX11_in 0 0 [.long a0, .long a2, .long a4] M0 Q := by
  unfold fX11_in at h
  refine sp_Mt.of [some (.long a0), none, some (.long a2), none, some (.long a4), none] (by decide) (by simp [sp_ent, Value.category]) rfl ?_
  refine sp_lload_n dX11_in_0 rfl rfl ?_
  refine sp_lload_n dX11_in_1 rfl rfl ?_
  refine sp_lcmp dX11_in_2 ?_
  refine sp_lif_lt (tgt := 17) dX11_in_3 (by decide) (fun hc1 => ?_) (fun hc1 => ?_)
  · have h := (if_pos hc1).symm.trans h
    refine sp_iconst (v := 0) dX11_in_17 (by decide) ?_
    cases h
    exact sp_iret dX11_in_18 (ty := .boolean) rfl (sp_nz (Or.inl rfl)) (fun _ => hQ)
  · have h := (if_neg hc1).symm.trans h
    refine sp_lload_n dX11_in_6 rfl rfl ?_
    refine sp_lload dX11_in_7 rfl ?_
    refine sp_lcmp dX11_in_9 ?_
    suffices hj : sp_Wp g Ω mX11_in 0 0 18 [none, none, none, none, none, none] [.int (if a4 < a0 then 0 else 1)] M0 Q by
      refine sp_lif_gt (tgt := 17) dX11_in_10 (by decide) (fun hc2 => ?_) (fun hc2 => ?_)
      · refine sp_iconst (v := 0) dX11_in_17 (by decide) ?_
        refine sp_weak [false, false, false, false, false, false] [none, none, none, none, none, none] rfl ?_
        simp only [if_pos hc2] at hj
        exact hj
      · refine sp_iconst (v := 1) dX11_in_13 (by decide) ?_
        refine sp_goto (tgt := 18) dX11_in_14 (by decide) ?_
        refine sp_weak [false, false, false, false, false, false] [none, none, none, none, none, none] rfl ?_
        simp only [if_neg hc2] at hj
        exact hj
    cases h
    exact sp_iret dX11_in_18 (ty := .boolean) rfl (sp_nz (by repeat (first | exact Or.inl rfl | exact Or.inr rfl | split))) (fun _ => hQ)
theorem bX11_in (a0 : Int64) (a2 : Int64) (a4 : Int64) : fX11_in a0 a2 a4 = 0 ∨ fX11_in a0 a2 a4 = 1 := by
  unfold fX11_in
  repeat (first | exact Or.inl rfl | exact Or.inr rfl | split)
def fX11_is (a0 : Int32) (a1 : Int32) : Int32 :=
  (if ((a0 >>> (a1 &&& 31)) &&& 1) = 1 then 1 else 0)
set_option maxRecDepth 100000 in
set_option maxHeartbeats 4000000 in
theorem tX11_is {g : sp_G} {Ω : sp_Mem → Prop} {Q : sp_Qt} {M0 : sp_Mem} {p : Int32} (hG : sp_Ok Ω) {a0 : Int32} {a1 : Int32} (h : fX11_is a0 a1 = p) (hQ : Q (some (.int p)) M0) : sp_Mt g Ω mX11_is 0 0 [.int a0, .int a1] M0 Q := by
  unfold fX11_is at h
  refine sp_Mt.of [some (.int a0), some (.int a1)] (by decide) (by simp [sp_ent, Value.category]) rfl ?_
  refine sp_iload_n dX11_is_0 rfl rfl ?_
  refine sp_iload_n dX11_is_1 rfl rfl ?_
  refine sp_ishr dX11_is_2 ?_
  refine sp_iconst (v := 1) dX11_is_3 (by decide) ?_
  refine sp_iand dX11_is_4 ?_
  refine sp_iconst (v := 1) dX11_is_5 (by decide) ?_
  suffices hj : sp_Wp g Ω mX11_is 0 0 14 [none, none] [.int (if ((a0 >>> (a1 &&& 31)) &&& 1) = 1 then 1 else 0)] M0 Q by
    refine sp_icmp_ne (tgt := 13) dX11_is_6 (by decide) (fun hc1 => ?_) (fun hc1 => ?_)
    · refine sp_iconst (v := 0) dX11_is_13 (by decide) ?_
      refine sp_weak [false, false] [none, none] rfl ?_
      simp only [if_neg hc1] at hj
      exact hj
    · refine sp_iconst (v := 1) dX11_is_9 (by decide) ?_
      refine sp_goto (tgt := 14) dX11_is_10 (by decide) ?_
      refine sp_weak [false, false] [none, none] rfl ?_
      simp only [if_pos hc1] at hj
      exact hj
  cases h
  exact sp_iret dX11_is_14 (ty := .boolean) rfl (sp_nz (by repeat (first | exact Or.inl rfl | exact Or.inr rfl | split))) (fun _ => hQ)
theorem bX11_is (a0 : Int32) (a1 : Int32) : fX11_is a0 a1 = 0 ∨ fX11_is a0 a1 = 1 := by
  unfold fX11_is
  repeat (first | exact Or.inl rfl | exact Or.inr rfl | split)
def fX11_ones_l4 (F : Nat) (kx : Int32 → Option Int32) : Nat → Int32 → Int32 → Int32 → Option Int32
  | 0, _, _, _ => none
  | n + 1, a0, a1, a2 =>
  if 6 ≤ a2 then (kx a1) else (sp_do ((a1 + ((a0 >>> (a2 &&& 31)) &&& 1))) fun u2 => (fX11_ones_l4 F kx n) a0 u2 (a2 + 1))
def fX11_ones (F : Nat) (a0 : Int32) : Option Int32 :=
  fX11_ones_l4 F (fun b4 => some b4) F a0 0 0
set_option maxRecDepth 100000 in
set_option maxHeartbeats 4000000 in
theorem tX11_ones_l4 {g : sp_G} {Ω : sp_Mem → Prop} {Q : sp_Qt} {F : Nat} {M0 : sp_Mem} {p : Int32} (hG : sp_Ok Ω)  {kx : Int32 → Option Int32} (hQ : Q (some (.int p)) M0) (hx : ∀ (a1 : Int32), kx a1 = some p → sp_Wp g Ω mX11_ones 0 0 24 [none, some (.int a1), none] [] M0 Q) : ∀ (n : Nat) (a0 : Int32) (a1 : Int32) (a2 : Int32), fX11_ones_l4 F kx n a0 a1 a2 = some p → sp_Wp g Ω mX11_ones 0 0 4 [some (.int a0), some (.int a1), some (.int a2)] [] M0 Q := by
  intro n
  induction n with
  | zero =>
    intro a0 a1 a2 h
    rw [fX11_ones_l4] at h
    cases h
  | succ n ih =>
    intro a0 a1 a2 h
    rw [fX11_ones_l4] at h
    refine sp_iload_n dX11_ones_4 rfl rfl ?_
    refine sp_bipush (v := 6) dX11_ones_5 (by decide) ?_
    refine sp_icmp_ge (tgt := 24) dX11_ones_7 (by decide) (fun hc1 => ?_) (fun hc1 => ?_)
    · have h := (if_pos hc1).symm.trans h
      refine sp_weak [false, true, false] [none, some (.int a1), none] rfl ?_
      exact hx _ h
    · have h := (if_neg hc1).symm.trans h
      refine sp_iload_n dX11_ones_10 rfl rfl ?_
      refine sp_iload_n dX11_ones_11 rfl rfl ?_
      refine sp_iload_n dX11_ones_12 rfl rfl ?_
      refine sp_ishr dX11_ones_13 ?_
      refine sp_iconst (v := 1) dX11_ones_14 (by decide) ?_
      refine sp_iand dX11_ones_15 ?_
      refine sp_iadd dX11_ones_16 ?_
      obtain ⟨u2, hu2, h⟩ := sp_do_e h
      refine sp_topi hu2 ?_
      refine sp_istore_n [some (.int a0), some (.int u2), some (.int a2)] dX11_ones_17 rfl (by decide) rfl ?_
      refine sp_iinc (v := (a2 + 1)) [some (.int a0), some (.int u2), some (.int (a2 + 1))] dX11_ones_18 rfl rfl (by decide) rfl ?_
      refine sp_goto (tgt := 4) dX11_ones_21 (by decide) ?_
      refine sp_weak [true, true, true] [some (.int a0), some (.int u2), some (.int (a2 + 1))] rfl ?_
      exact ih _ _ _ h
set_option maxRecDepth 100000 in
set_option maxHeartbeats 4000000 in
theorem tX11_ones {g : sp_G} {Ω : sp_Mem → Prop} {Q : sp_Qt} {F : Nat} {M0 : sp_Mem} {p : Int32} (hG : sp_Ok Ω) {a0 : Int32} (h : fX11_ones F a0 = some p) (hQ : Q (some (.int p)) M0) : sp_Mt g Ω mX11_ones 0 0 [.int a0] M0 Q := by
  unfold fX11_ones at h
  refine sp_Mt.of [some (.int a0), none, none] (by decide) (by simp [sp_ent, Value.category]) rfl ?_
  refine sp_iconst (v := 0) dX11_ones_0 (by decide) ?_
  refine sp_istore_n [some (.int a0), some (.int 0), none] dX11_ones_1 rfl (by decide) rfl ?_
  refine sp_iconst (v := 0) dX11_ones_2 (by decide) ?_
  refine sp_istore_n [some (.int a0), some (.int 0), some (.int 0)] dX11_ones_3 rfl (by decide) rfl ?_
  refine sp_weak [true, true, true] [some (.int a0), some (.int 0), some (.int 0)] rfl ?_
  refine tX11_ones_l4 hG hQ (fun b4 h => ?_) F _ _ _ h
  refine sp_iload_n dX11_ones_24 rfl rfl ?_
  cases h
  exact sp_iret dX11_ones_25 (ty := .int) rfl rfl (fun _ => hQ)
def fX11_within (a0 : Int64) (a2 : Int32) (a3 : Int32) : Int32 :=
  if (Int32.toInt64 a2) ≤ a0 then (if a0 ≤ (Int32.toInt64 a3) then ((Int64.toInt32 a0)) else (a3)) else (a2)
set_option maxRecDepth 100000 in
set_option maxHeartbeats 4000000 in
theorem tX11_within {g : sp_G} {Ω : sp_Mem → Prop} {Q : sp_Qt} {M0 : sp_Mem} {p : Int32} (hG : sp_Ok Ω) {a0 : Int64} {a2 : Int32} {a3 : Int32} (h : fX11_within a0 a2 a3 = p) (hQ : Q (some (.int p)) M0) : sp_Mt g Ω mX11_within 0 0 [.long a0, .int a2, .int a3] M0 Q := by
  unfold fX11_within at h
  refine sp_Mt.of [some (.long a0), none, some (.int a2), some (.int a3)] (by decide) (by simp [sp_ent, Value.category]) rfl ?_
  refine sp_lload_n dX11_within_0 rfl rfl ?_
  refine sp_iload_n dX11_within_1 rfl rfl ?_
  refine sp_i2l dX11_within_2 ?_
  refine sp_lcmp dX11_within_3 ?_
  refine sp_lif_ge (tgt := 11) dX11_within_4 (by decide) (fun hc1 => ?_) (fun hc1 => ?_)
  · have h := (if_pos hc1).symm.trans h
    refine sp_lload_n dX11_within_11 rfl rfl ?_
    refine sp_iload_n dX11_within_12 rfl rfl ?_
    refine sp_i2l dX11_within_13 ?_
    refine sp_lcmp dX11_within_14 ?_
    refine sp_lif_le (tgt := 22) dX11_within_15 (by decide) (fun hc2 => ?_) (fun hc2 => ?_)
    · have h := (if_pos hc2).symm.trans h
      refine sp_lload_n dX11_within_22 rfl rfl ?_
      refine sp_l2i dX11_within_23 ?_
      cases h
      exact sp_iret dX11_within_24 (ty := .int) rfl rfl (fun _ => hQ)
    · have h := (if_neg hc2).symm.trans h
      refine sp_iload_n dX11_within_18 rfl rfl ?_
      refine sp_goto (tgt := 24) dX11_within_19 (by decide) ?_
      cases h
      exact sp_iret dX11_within_24 (ty := .int) rfl rfl (fun _ => hQ)
  · have h := (if_neg hc1).symm.trans h
    refine sp_iload_n dX11_within_7 rfl rfl ?_
    refine sp_goto (tgt := 24) dX11_within_8 (by decide) ?_
    cases h
    exact sp_iret dX11_within_24 (ty := .int) rfl rfl (fun _ => hQ)
def fX11_tell_j10 (a1 : Int32) (s0 : Int32) (M : sp_Mem) : Option (Int32 × sp_Mem) :=
  sp_do (sp_setI M 103 1 s0) fun M2 => if 0 ≤ a1 then (some (a1, M2)) else ((sp_ix 7 (-a1)).bind fun j4 => (sp_ix 7 (-a1)).bind fun j5 => sp_do (sp_setI M2 104 j5 ((sp_I M2 104 j4) + 1)) fun M6 => some (a1, M6))
def fX11_tell (M : sp_Mem) (a1 : Int32) : Option (Int32 × sp_Mem) :=
  fX11_tell_j10 a1 (if 0 ≤ a1 then 0 else a1) M
set_option maxRecDepth 100000 in
set_option maxHeartbeats 4000000 in
theorem tX11_tell_j10 {g : sp_G} {Ω : sp_Mem → Prop} {Q : sp_Qt} {p : (Int32 × sp_Mem)} (hG : sp_Ok Ω)  (hQ : Q (some (.int p.1)) p.2) (a1 : Int32) (s0 : Int32) (M : sp_Mem) (h : fX11_tell_j10 a1 s0 M = some p) : sp_Wp g Ω mX11_tell 0 0 10 [some (.ref 103), some (.int a1)] [.int s0, .ref 103] M Q := by
  unfold fX11_tell_j10 at h
  refine sp_use (fun ho => ?_)
  have hs := hG.1 _ ho
  obtain ⟨M2, hM2, h⟩ := sp_do_e h
  refine sp_putI2 (RX11, TX11, 56) hG dX11_tell_10 clX11 (j := 1) (by decide) tw_1216 rfl (Or.inl rfl) (wsI_103 hs) hM2 ?_
  refine sp_iload_n dX11_tell_13 rfl rfl ?_
  refine sp_if_ge (tgt := 28) dX11_tell_14 (by decide) (fun hc3 => ?_) (fun hc3 => ?_)
  · have h := (if_pos hc3).symm.trans h
    refine sp_iload_n dX11_tell_28 rfl rfl ?_
    cases h
    exact sp_iret dX11_tell_29 (ty := .int) rfl rfl (fun _ => hQ)
  · have h := (if_neg hc3).symm.trans h
    refine sp_aload_n dX11_tell_17 rfl rfl ?_
    refine sp_use (fun ho => ?_)
    have hs := hG.1 _ ho
    refine sp_getR (RX11, TX11, 56) dX11_tell_18 clX11 (j := 2) (by decide) tw_1217 (wsI_103 hs) (Or.inr ⟨_, rfl⟩) (wsP_103_2 hs) ?_
    refine sp_iload_n dX11_tell_21 rfl rfl ?_
    refine sp_ineg dX11_tell_22 ?_
    refine sp_dup2 dX11_tell_23 rfl rfl ?_
    obtain ⟨j4, hj4, h⟩ := Option.bind_eq_some_iff.mp h
    refine sp_iald2 (j := j4) dX11_tell_24 (wsA_104 hs) (wsN_104 hs) hj4 ?_
    refine sp_iconst (v := 1) dX11_tell_25 (by decide) ?_
    refine sp_iadd dX11_tell_26 ?_
    obtain ⟨j5, hj5, h⟩ := Option.bind_eq_some_iff.mp h
    obtain ⟨M6, hM6, h⟩ := sp_do_e h
    refine sp_iast2 (j := j5) hG dX11_tell_27 (wsA_104 hs) (wsN_104 hs) hj5 hM6 ?_
    refine sp_iload_n dX11_tell_28 rfl rfl ?_
    cases h
    exact sp_iret dX11_tell_29 (ty := .int) rfl rfl (fun _ => hQ)
set_option maxRecDepth 100000 in
set_option maxHeartbeats 4000000 in
theorem tX11_tell {g : sp_G} {Ω : sp_Mem → Prop} {Q : sp_Qt} {p : (Int32 × sp_Mem)} (hG : sp_Ok Ω) {M : sp_Mem} {a1 : Int32} (h : fX11_tell M a1 = some p) (hQ : Q (some (.int p.1)) p.2) : sp_Mt g Ω mX11_tell 0 0 [.ref 103, .int a1] M Q := by
  unfold fX11_tell at h
  refine sp_Mt.of [some (.ref 103), some (.int a1)] (by decide) (by simp [sp_ent, Value.category]) rfl ?_
  refine sp_aload_n dX11_tell_0 rfl rfl ?_
  refine sp_iload_n dX11_tell_1 rfl rfl ?_
  suffices hj : sp_Wp g Ω mX11_tell 0 0 10 [some (.ref 103), some (.int a1)] [.int (if 0 ≤ a1 then 0 else a1), .ref 103] M Q by
    refine sp_if_ge (tgt := 9) dX11_tell_2 (by decide) (fun hc1 => ?_) (fun hc1 => ?_)
    · refine sp_iconst (v := 0) dX11_tell_9 (by decide) ?_
      simp only [if_pos hc1] at hj
      exact hj
    · refine sp_iload_n dX11_tell_5 rfl rfl ?_
      refine sp_goto (tgt := 10) dX11_tell_6 (by decide) ?_
      simp only [if_neg hc1] at hj
      exact hj
  refine sp_weak [true, true] [some (.ref 103), some (.int a1)] rfl ?_
  exact tX11_tell_j10 hG hQ _ _ _ h
def fX11_change (M : sp_Mem) (a1 : Int32) (a2 : Int32) : Option (Int32 × sp_Mem) :=
  (sp_ix 5480 a1).bind fun j1 => sp_do ((sp_I M 105 j1)) fun u2 => (sp_ix 5480 a1).bind fun j3 => sp_do (sp_setI M 105 j3 a2) fun M4 => sp_do (sp_setI M4 103 1 0) fun M5 => some (u2, M5)
set_option maxRecDepth 100000 in
set_option maxHeartbeats 4000000 in
theorem tX11_change {g : sp_G} {Ω : sp_Mem → Prop} {Q : sp_Qt} {p : (Int32 × sp_Mem)} (hG : sp_Ok Ω) {M : sp_Mem} {a1 : Int32} {a2 : Int32} (h : fX11_change M a1 a2 = some p) (hQ : Q (some (.int p.1)) p.2) : sp_Mt g Ω mX11_change 0 0 [.ref 103, .int a1, .int a2] M Q := by
  unfold fX11_change at h
  refine sp_Mt.of [some (.ref 103), some (.int a1), some (.int a2), none] (by decide) (by simp [sp_ent, Value.category]) rfl ?_
  refine sp_aload_n dX11_change_0 rfl rfl ?_
  refine sp_use (fun ho => ?_)
  have hs := hG.1 _ ho
  refine sp_getR (RX11, TX11, 56) dX11_change_1 clX11 (j := 3) (by decide) tw_1218 (wsI_103 hs) (Or.inr ⟨_, rfl⟩) (wsP_103_3 hs) ?_
  refine sp_iload_n dX11_change_4 rfl rfl ?_
  obtain ⟨j1, hj1, h⟩ := Option.bind_eq_some_iff.mp h
  refine sp_iald2 (j := j1) dX11_change_5 (wsA_105 hs) (wsN_105 hs) hj1 ?_
  obtain ⟨u2, hu2, h⟩ := sp_do_e h
  refine sp_topi hu2 ?_
  refine sp_istore_n [some (.ref 103), some (.int a1), some (.int a2), some (.int u2)] dX11_change_6 rfl (by decide) rfl ?_
  refine sp_aload_n dX11_change_7 rfl rfl ?_
  refine sp_getR (RX11, TX11, 56) dX11_change_8 clX11 (j := 3) (by decide) tw_1218 (wsI_103 hs) (Or.inr ⟨_, rfl⟩) (wsP_103_3 hs) ?_
  refine sp_iload_n dX11_change_11 rfl rfl ?_
  refine sp_iload_n dX11_change_12 rfl rfl ?_
  obtain ⟨j3, hj3, h⟩ := Option.bind_eq_some_iff.mp h
  obtain ⟨M4, hM4, h⟩ := sp_do_e h
  refine sp_iast2 (j := j3) hG dX11_change_13 (wsA_105 hs) (wsN_105 hs) hj3 hM4 ?_
  refine sp_aload_n dX11_change_14 rfl rfl ?_
  refine sp_iconst (v := 0) dX11_change_15 (by decide) ?_
  refine sp_use (fun ho => ?_)
  have hs := hG.1 _ ho
  obtain ⟨M5, hM5, h⟩ := sp_do_e h
  refine sp_putI2 (RX11, TX11, 56) hG dX11_change_16 clX11 (j := 1) (by decide) tw_1216 rfl (Or.inl rfl) (wsI_103 hs) hM5 ?_
  refine sp_iload_n dX11_change_19 rfl rfl ?_
  cases h
  exact sp_iret dX11_change_20 (ty := .int) rfl rfl (fun _ => hQ)
def fX11_settled (M : sp_Mem) (a1 : Int32) : Option (Int32 × sp_Mem) :=
  if 0 ≤ a1 then (sp_do (sp_setI M 103 8 0) fun M2 => (fX11_tell M2 a1).bind fun x3 => some (x3.1, x3.2)) else (sp_do (sp_setI M 103 8 (sp_I M 103 8)) fun M4 => (fX11_tell M4 a1).bind fun x5 => some (x5.1, x5.2))
set_option maxRecDepth 100000 in
set_option maxHeartbeats 4000000 in
theorem tX11_settled {g : sp_G} {Ω : sp_Mem → Prop} {Q : sp_Qt} {p : (Int32 × sp_Mem)} (hG : sp_Ok Ω) {M : sp_Mem} {a1 : Int32} (h : fX11_settled M a1 = some p) (hQ : Q (some (.int p.1)) p.2) : sp_Mt g Ω mX11_settled 0 0 [.ref 103, .int a1] M Q := by
  unfold fX11_settled at h
  refine sp_Mt.of [some (.ref 103), some (.int a1)] (by decide) (by simp [sp_ent, Value.category]) rfl ?_
  refine sp_aload_n dX11_settled_0 rfl rfl ?_
  refine sp_iload_n dX11_settled_1 rfl rfl ?_
  refine sp_if_ge (tgt := 12) dX11_settled_2 (by decide) (fun hc1 => ?_) (fun hc1 => ?_)
  · have h := (if_pos hc1).symm.trans h
    refine sp_iconst (v := 0) dX11_settled_12 (by decide) ?_
    refine sp_use (fun ho => ?_)
    have hs := hG.1 _ ho
    obtain ⟨M2, hM2, h⟩ := sp_do_e h
    refine sp_putI2 (RX11, TX11, 56) hG dX11_settled_13 clX11 (j := 8) (by decide) tw_1223 rfl (Or.inl rfl) (wsI_103 hs) hM2 ?_
    refine sp_aload_n dX11_settled_16 rfl rfl ?_
    refine sp_iload_n dX11_settled_17 rfl rfl ?_
    refine sp_use (fun ho => ?_)
    have hs := hG.1 _ ho
    obtain ⟨x3, hx3, h⟩ := Option.bind_eq_some_iff.mp h
    refine sp_cV (M1 := x3.2) (r := some (.int x3.1)) (o := 103) (st := []) (c := 10) (RX11, TX11, 56) [.int a1] [.int a1, .ref 103] [.int x3.1] dX11_settled_18 okX11_tell tw_1388 tw_1390 tw_27 (by decide) (by decide) rfl (Nat.le_of_ble_eq_true rfl) rfl rfl rfl rfl (wsI_103 hs) (fun Q hQ => tX11_tell hG hx3 hQ) ?_
    cases h
    exact sp_iret dX11_settled_21 (ty := .int) rfl rfl (fun _ => hQ)
  · have h := (if_neg hc1).symm.trans h
    refine sp_aload_n dX11_settled_5 rfl rfl ?_
    refine sp_use (fun ho => ?_)
    have hs := hG.1 _ ho
    refine sp_getI (RX11, TX11, 56) dX11_settled_6 clX11 (j := 8) (by decide) tw_1223 (wsI_103 hs) (Or.inl rfl) ?_
    refine sp_goto (tgt := 13) dX11_settled_9 (by decide) ?_
    obtain ⟨M4, hM4, h⟩ := sp_do_e h
    refine sp_putI2 (RX11, TX11, 56) hG dX11_settled_13 clX11 (j := 8) (by decide) tw_1223 rfl (Or.inl rfl) (wsI_103 hs) hM4 ?_
    refine sp_aload_n dX11_settled_16 rfl rfl ?_
    refine sp_iload_n dX11_settled_17 rfl rfl ?_
    refine sp_use (fun ho => ?_)
    have hs := hG.1 _ ho
    obtain ⟨x5, hx5, h⟩ := Option.bind_eq_some_iff.mp h
    refine sp_cV (M1 := x5.2) (r := some (.int x5.1)) (o := 103) (st := []) (c := 10) (RX11, TX11, 56) [.int a1] [.int a1, .ref 103] [.int x5.1] dX11_settled_18 okX11_tell tw_1388 tw_1390 tw_27 (by decide) (by decide) rfl (Nat.le_of_ble_eq_true rfl) rfl rfl rfl rfl (wsI_103 hs) (fun Q hQ => tX11_tell hG hx5 hQ) ?_
    cases h
    exact sp_iret dX11_settled_21 (ty := .int) rfl rfl (fun _ => hQ)
def fX11_keepAll_l2 (F : Nat) (kx : sp_Mem → Option sp_Mem) : Nat → Int32 → Int32 → sp_Mem → Option sp_Mem
  | 0, _, _, _ => none
  | n + 1, a1, a2, M =>
  if 46 ≤ a2 then (kx M) else ((sp_ix 5480 (5 + a2)).bind fun j2 => (sp_ix 828 ((46 * a1) + a2)).bind fun j3 => sp_do (sp_setI M 108 j3 (sp_I M 105 j2)) fun M4 => (fX11_keepAll_l2 F kx n) a1 (a2 + 1) M4)
def fX11_keepAll (F : Nat) (M : sp_Mem) (a1 : Int32) : Option sp_Mem :=
  fX11_keepAll_l2 F (fun M5 => some M5) F a1 0 M
set_option maxRecDepth 100000 in
set_option maxHeartbeats 4000000 in
theorem tX11_keepAll_l2 {g : sp_G} {Ω : sp_Mem → Prop} {Q : sp_Qt} {F : Nat} {p : sp_Mem} (hG : sp_Ok Ω)  {kx : sp_Mem → Option sp_Mem} (hQ : Q none p) (hx : ∀  (M : sp_Mem), kx M = some p → sp_Wp g Ω mX11_keepAll 0 0 33 [none, none, none] [] M Q) : ∀ (n : Nat) (a1 : Int32) (a2 : Int32) (M : sp_Mem), fX11_keepAll_l2 F kx n a1 a2 M = some p → sp_Wp g Ω mX11_keepAll 0 0 2 [some (.ref 103), some (.int a1), some (.int a2)] [] M Q := by
  intro n
  induction n with
  | zero =>
    intro a1 a2 M h
    rw [fX11_keepAll_l2] at h
    cases h
  | succ n ih =>
    intro a1 a2 M h
    rw [fX11_keepAll_l2] at h
    refine sp_iload_n dX11_keepAll_2 rfl rfl ?_
    refine sp_bipush (v := 46) dX11_keepAll_3 (by decide) ?_
    refine sp_icmp_ge (tgt := 33) dX11_keepAll_5 (by decide) (fun hc1 => ?_) (fun hc1 => ?_)
    · have h := (if_pos hc1).symm.trans h
      refine sp_weak [false, false, false] [none, none, none] rfl ?_
      exact hx _ h
    · have h := (if_neg hc1).symm.trans h
      refine sp_aload_n dX11_keepAll_8 rfl rfl ?_
      refine sp_use (fun ho => ?_)
      have hs := hG.1 _ ho
      refine sp_getR (RX11, TX11, 56) dX11_keepAll_9 clX11 (j := 6) (by decide) tw_1221 (wsI_103 hs) (Or.inr ⟨_, rfl⟩) (wsP_103_6 hs) ?_
      refine sp_bipush (v := 46) dX11_keepAll_12 (by decide) ?_
      refine sp_iload_n dX11_keepAll_14 rfl rfl ?_
      refine sp_imul dX11_keepAll_15 ?_
      refine sp_iload_n dX11_keepAll_16 rfl rfl ?_
      refine sp_iadd dX11_keepAll_17 ?_
      refine sp_aload_n dX11_keepAll_18 rfl rfl ?_
      refine sp_getR (RX11, TX11, 56) dX11_keepAll_19 clX11 (j := 3) (by decide) tw_1218 (wsI_103 hs) (Or.inr ⟨_, rfl⟩) (wsP_103_3 hs) ?_
      refine sp_iconst (v := 5) dX11_keepAll_22 (by decide) ?_
      refine sp_iload_n dX11_keepAll_23 rfl rfl ?_
      refine sp_iadd dX11_keepAll_24 ?_
      obtain ⟨j2, hj2, h⟩ := Option.bind_eq_some_iff.mp h
      refine sp_iald2 (j := j2) dX11_keepAll_25 (wsA_105 hs) (wsN_105 hs) hj2 ?_
      obtain ⟨j3, hj3, h⟩ := Option.bind_eq_some_iff.mp h
      obtain ⟨M4, hM4, h⟩ := sp_do_e h
      refine sp_iast2 (j := j3) hG dX11_keepAll_26 (wsA_108 hs) (wsN_108 hs) hj3 hM4 ?_
      refine sp_iinc (v := (a2 + 1)) [some (.ref 103), some (.int a1), some (.int (a2 + 1))] dX11_keepAll_27 rfl rfl (by decide) rfl ?_
      refine sp_goto (tgt := 2) dX11_keepAll_30 (by decide) ?_
      refine sp_weak [true, true, true] [some (.ref 103), some (.int a1), some (.int (a2 + 1))] rfl ?_
      exact ih _ _ _ h
set_option maxRecDepth 100000 in
set_option maxHeartbeats 4000000 in
theorem tX11_keepAll {g : sp_G} {Ω : sp_Mem → Prop} {Q : sp_Qt} {F : Nat} {p : sp_Mem} (hG : sp_Ok Ω) {M : sp_Mem} {a1 : Int32} (h : fX11_keepAll F M a1 = some p) (hQ : Q none p) : sp_Mt g Ω mX11_keepAll 0 0 [.ref 103, .int a1] M Q := by
  unfold fX11_keepAll at h
  refine sp_Mt.of [some (.ref 103), some (.int a1), none] (by decide) (by simp [sp_ent, Value.category]) rfl ?_
  refine sp_iconst (v := 0) dX11_keepAll_0 (by decide) ?_
  refine sp_istore_n [some (.ref 103), some (.int a1), some (.int 0)] dX11_keepAll_1 rfl (by decide) rfl ?_
  refine sp_weak [true, true, true] [some (.ref 103), some (.int a1), some (.int 0)] rfl ?_
  refine tX11_keepAll_l2 hG hQ (fun M5 h => ?_) F _ _ _ h
  cases h
  exact sp_vret dX11_keepAll_33 rfl (fun _ => hQ)
def fX11_putBack_l2 (F : Nat) (kx : sp_Mem → Option sp_Mem) : Nat → Int32 → Int32 → sp_Mem → Option sp_Mem
  | 0, _, _, _ => none
  | n + 1, a1, a2, M =>
  if 46 ≤ a2 then (kx M) else ((sp_ix 828 ((46 * a1) + a2)).bind fun j2 => (sp_ix 5480 (5 + a2)).bind fun j3 => sp_do (sp_setI M 105 j3 (sp_I M 108 j2)) fun M4 => (fX11_putBack_l2 F kx n) a1 (a2 + 1) M4)
def fX11_putBack (F : Nat) (M : sp_Mem) (a1 : Int32) : Option sp_Mem :=
  fX11_putBack_l2 F (fun M5 => some M5) F a1 0 M
set_option maxRecDepth 100000 in
set_option maxHeartbeats 4000000 in
theorem tX11_putBack_l2 {g : sp_G} {Ω : sp_Mem → Prop} {Q : sp_Qt} {F : Nat} {p : sp_Mem} (hG : sp_Ok Ω)  {kx : sp_Mem → Option sp_Mem} (hQ : Q none p) (hx : ∀  (M : sp_Mem), kx M = some p → sp_Wp g Ω mX11_putBack 0 0 33 [none, none, none] [] M Q) : ∀ (n : Nat) (a1 : Int32) (a2 : Int32) (M : sp_Mem), fX11_putBack_l2 F kx n a1 a2 M = some p → sp_Wp g Ω mX11_putBack 0 0 2 [some (.ref 103), some (.int a1), some (.int a2)] [] M Q := by
  intro n
  induction n with
  | zero =>
    intro a1 a2 M h
    rw [fX11_putBack_l2] at h
    cases h
  | succ n ih =>
    intro a1 a2 M h
    rw [fX11_putBack_l2] at h
    refine sp_iload_n dX11_putBack_2 rfl rfl ?_
    refine sp_bipush (v := 46) dX11_putBack_3 (by decide) ?_
    refine sp_icmp_ge (tgt := 33) dX11_putBack_5 (by decide) (fun hc1 => ?_) (fun hc1 => ?_)
    · have h := (if_pos hc1).symm.trans h
      refine sp_weak [false, false, false] [none, none, none] rfl ?_
      exact hx _ h
    · have h := (if_neg hc1).symm.trans h
      refine sp_aload_n dX11_putBack_8 rfl rfl ?_
      refine sp_use (fun ho => ?_)
      have hs := hG.1 _ ho
      refine sp_getR (RX11, TX11, 56) dX11_putBack_9 clX11 (j := 3) (by decide) tw_1218 (wsI_103 hs) (Or.inr ⟨_, rfl⟩) (wsP_103_3 hs) ?_
      refine sp_iconst (v := 5) dX11_putBack_12 (by decide) ?_
      refine sp_iload_n dX11_putBack_13 rfl rfl ?_
      refine sp_iadd dX11_putBack_14 ?_
      refine sp_aload_n dX11_putBack_15 rfl rfl ?_
      refine sp_getR (RX11, TX11, 56) dX11_putBack_16 clX11 (j := 6) (by decide) tw_1221 (wsI_103 hs) (Or.inr ⟨_, rfl⟩) (wsP_103_6 hs) ?_
      refine sp_bipush (v := 46) dX11_putBack_19 (by decide) ?_
      refine sp_iload_n dX11_putBack_21 rfl rfl ?_
      refine sp_imul dX11_putBack_22 ?_
      refine sp_iload_n dX11_putBack_23 rfl rfl ?_
      refine sp_iadd dX11_putBack_24 ?_
      obtain ⟨j2, hj2, h⟩ := Option.bind_eq_some_iff.mp h
      refine sp_iald2 (j := j2) dX11_putBack_25 (wsA_108 hs) (wsN_108 hs) hj2 ?_
      obtain ⟨j3, hj3, h⟩ := Option.bind_eq_some_iff.mp h
      obtain ⟨M4, hM4, h⟩ := sp_do_e h
      refine sp_iast2 (j := j3) hG dX11_putBack_26 (wsA_105 hs) (wsN_105 hs) hj3 hM4 ?_
      refine sp_iinc (v := (a2 + 1)) [some (.ref 103), some (.int a1), some (.int (a2 + 1))] dX11_putBack_27 rfl rfl (by decide) rfl ?_
      refine sp_goto (tgt := 2) dX11_putBack_30 (by decide) ?_
      refine sp_weak [true, true, true] [some (.ref 103), some (.int a1), some (.int (a2 + 1))] rfl ?_
      exact ih _ _ _ h
set_option maxRecDepth 100000 in
set_option maxHeartbeats 4000000 in
theorem tX11_putBack {g : sp_G} {Ω : sp_Mem → Prop} {Q : sp_Qt} {F : Nat} {p : sp_Mem} (hG : sp_Ok Ω) {M : sp_Mem} {a1 : Int32} (h : fX11_putBack F M a1 = some p) (hQ : Q none p) : sp_Mt g Ω mX11_putBack 0 0 [.ref 103, .int a1] M Q := by
  unfold fX11_putBack at h
  refine sp_Mt.of [some (.ref 103), some (.int a1), none] (by decide) (by simp [sp_ent, Value.category]) rfl ?_
  refine sp_iconst (v := 0) dX11_putBack_0 (by decide) ?_
  refine sp_istore_n [some (.ref 103), some (.int a1), some (.int 0)] dX11_putBack_1 rfl (by decide) rfl ?_
  refine sp_weak [true, true, true] [some (.ref 103), some (.int a1), some (.int 0)] rfl ?_
  refine tX11_putBack_l2 hG hQ (fun M5 h => ?_) F _ _ _ h
  cases h
  exact sp_vret dX11_putBack_33 rfl (fun _ => hQ)
def fX11_remember_j77 (F : Nat) (a1 : Int32) (M : sp_Mem) : Option sp_Mem :=
  (fX11_keepAll F M (sp_I M 103 8)).bind fun M2 => (sp_ix 16 (sp_I M2 103 8)).bind fun j3 => sp_do (sp_setI M2 109 j3 a1) fun M4 => sp_do (sp_setI M4 103 8 ((sp_I M4 103 8) + 1)) fun M5 => some M5
def fX11_remember_l11 (F : Nat) (kx : Int32 → sp_Mem → Option sp_Mem) : Nat → Int32 → Int32 → sp_Mem → Option sp_Mem
  | 0, _, _, _ => none
  | n + 1, a1, a2, M =>
  if 690 ≤ a2 then (kx a1 M) else ((sp_ix 828 (a2 + 46)).bind fun j7 => (sp_ix 828 a2).bind fun j8 => sp_do (sp_setI M 108 j8 (sp_I M 108 j7)) fun M9 => (fX11_remember_l11 F kx n) a1 (a2 + 1) M9)
def fX11_remember_l41 (F : Nat) (kx : Int32 → sp_Mem → Option sp_Mem) : Nat → Int32 → Int32 → sp_Mem → Option sp_Mem
  | 0, _, _, _ => none
  | n + 1, a1, a2, M =>
  if 15 ≤ a2 then (kx a1 M) else ((sp_ix 16 (a2 + 1)).bind fun j13 => (sp_ix 16 a2).bind fun j14 => sp_do (sp_setI M 109 j14 (sp_I M 109 j13)) fun M15 => (fX11_remember_l41 F kx n) a1 (a2 + 1) M15)
def fX11_remember (F : Nat) (M : sp_Mem) (a1 : Int32) : Option sp_Mem :=
  if (sp_I M 103 8) = 16 then (fX11_remember_l11 F (fun b11 M10 => fX11_remember_l41 F (fun b17 M16 => sp_do (sp_setI M16 103 8 ((sp_I M16 103 8) - 1)) fun M18 => fX11_remember_j77 F b17 M18) F b11 0 M10) F a1 0 M) else (fX11_remember_j77 F a1 M)
set_option maxRecDepth 100000 in
set_option maxHeartbeats 4000000 in
theorem tX11_remember_j77 {g : sp_G} {Ω : sp_Mem → Prop} {Q : sp_Qt} {F : Nat} {p : sp_Mem} (hG : sp_Ok Ω)  (hQ : Q none p) (a1 : Int32) (M : sp_Mem) (h : fX11_remember_j77 F a1 M = some p) : sp_Wp g Ω mX11_remember 0 0 77 [some (.ref 103), some (.int a1), none] [] M Q := by
  unfold fX11_remember_j77 at h
  refine sp_aload_n dX11_remember_77 rfl rfl ?_
  refine sp_aload_n dX11_remember_78 rfl rfl ?_
  refine sp_use (fun ho => ?_)
  have hs := hG.1 _ ho
  refine sp_getI (RX11, TX11, 56) dX11_remember_79 clX11 (j := 8) (by decide) tw_1223 (wsI_103 hs) (Or.inl rfl) ?_
  obtain ⟨M2, hM2, h⟩ := Option.bind_eq_some_iff.mp h
  refine sp_cV (M1 := M2) (r := none) (o := 103) (st := []) (c := 10) (RX11, TX11, 56) [.int (sp_I M 103 8)] [.int (sp_I M 103 8), .ref 103] [] dX11_remember_82 okX11_keepAll tw_1687 tw_1689 tw_71 (by decide) (by decide) rfl (Nat.le_of_ble_eq_true rfl) rfl rfl rfl rfl (wsI_103 hs) (fun Q hQ => tX11_keepAll hG hM2 hQ) ?_
  refine sp_aload_n dX11_remember_85 rfl rfl ?_
  refine sp_use (fun ho => ?_)
  have hs := hG.1 _ ho
  refine sp_getR (RX11, TX11, 56) dX11_remember_86 clX11 (j := 7) (by decide) tw_1222 (wsI_103 hs) (Or.inr ⟨_, rfl⟩) (wsP_103_7 hs) ?_
  refine sp_aload_n dX11_remember_89 rfl rfl ?_
  refine sp_getI (RX11, TX11, 56) dX11_remember_90 clX11 (j := 8) (by decide) tw_1223 (wsI_103 hs) (Or.inl rfl) ?_
  refine sp_iload_n dX11_remember_93 rfl rfl ?_
  obtain ⟨j3, hj3, h⟩ := Option.bind_eq_some_iff.mp h
  obtain ⟨M4, hM4, h⟩ := sp_do_e h
  refine sp_iast2 (j := j3) hG dX11_remember_94 (wsA_109 hs) (wsN_109 hs) hj3 hM4 ?_
  refine sp_aload_n dX11_remember_95 rfl rfl ?_
  refine sp_dup dX11_remember_96 rfl ?_
  refine sp_use (fun ho => ?_)
  have hs := hG.1 _ ho
  refine sp_getI (RX11, TX11, 56) dX11_remember_97 clX11 (j := 8) (by decide) tw_1223 (wsI_103 hs) (Or.inl rfl) ?_
  refine sp_iconst (v := 1) dX11_remember_100 (by decide) ?_
  refine sp_iadd dX11_remember_101 ?_
  obtain ⟨M5, hM5, h⟩ := sp_do_e h
  refine sp_putI2 (RX11, TX11, 56) hG dX11_remember_102 clX11 (j := 8) (by decide) tw_1223 rfl (Or.inl rfl) (wsI_103 hs) hM5 ?_
  cases h
  exact sp_vret dX11_remember_105 rfl (fun _ => hQ)
set_option maxRecDepth 100000 in
set_option maxHeartbeats 4000000 in
theorem tX11_remember_l11 {g : sp_G} {Ω : sp_Mem → Prop} {Q : sp_Qt} {F : Nat} {p : sp_Mem} (hG : sp_Ok Ω)  {kx : Int32 → sp_Mem → Option sp_Mem} (hQ : Q none p) (hx : ∀ (a1 : Int32) (M : sp_Mem), kx a1 M = some p → sp_Wp g Ω mX11_remember 0 0 39 [some (.ref 103), some (.int a1), none] [] M Q) : ∀ (n : Nat) (a1 : Int32) (a2 : Int32) (M : sp_Mem), fX11_remember_l11 F kx n a1 a2 M = some p → sp_Wp g Ω mX11_remember 0 0 11 [some (.ref 103), some (.int a1), some (.int a2)] [] M Q := by
  intro n
  induction n with
  | zero =>
    intro a1 a2 M h
    rw [fX11_remember_l11] at h
    cases h
  | succ n ih =>
    intro a1 a2 M h
    rw [fX11_remember_l11] at h
    refine sp_iload_n dX11_remember_11 rfl rfl ?_
    refine sp_sipush (v := 690) dX11_remember_12 (by decide) ?_
    refine sp_icmp_ge (tgt := 39) dX11_remember_15 (by decide) (fun hc6 => ?_) (fun hc6 => ?_)
    · have h := (if_pos hc6).symm.trans h
      refine sp_weak [true, true, false] [some (.ref 103), some (.int a1), none] rfl ?_
      exact hx _ _ h
    · have h := (if_neg hc6).symm.trans h
      refine sp_aload_n dX11_remember_18 rfl rfl ?_
      refine sp_use (fun ho => ?_)
      have hs := hG.1 _ ho
      refine sp_getR (RX11, TX11, 56) dX11_remember_19 clX11 (j := 6) (by decide) tw_1221 (wsI_103 hs) (Or.inr ⟨_, rfl⟩) (wsP_103_6 hs) ?_
      refine sp_iload_n dX11_remember_22 rfl rfl ?_
      refine sp_aload_n dX11_remember_23 rfl rfl ?_
      refine sp_getR (RX11, TX11, 56) dX11_remember_24 clX11 (j := 6) (by decide) tw_1221 (wsI_103 hs) (Or.inr ⟨_, rfl⟩) (wsP_103_6 hs) ?_
      refine sp_iload_n dX11_remember_27 rfl rfl ?_
      refine sp_bipush (v := 46) dX11_remember_28 (by decide) ?_
      refine sp_iadd dX11_remember_30 ?_
      obtain ⟨j7, hj7, h⟩ := Option.bind_eq_some_iff.mp h
      refine sp_iald2 (j := j7) dX11_remember_31 (wsA_108 hs) (wsN_108 hs) hj7 ?_
      obtain ⟨j8, hj8, h⟩ := Option.bind_eq_some_iff.mp h
      obtain ⟨M9, hM9, h⟩ := sp_do_e h
      refine sp_iast2 (j := j8) hG dX11_remember_32 (wsA_108 hs) (wsN_108 hs) hj8 hM9 ?_
      refine sp_iinc (v := (a2 + 1)) [some (.ref 103), some (.int a1), some (.int (a2 + 1))] dX11_remember_33 rfl rfl (by decide) rfl ?_
      refine sp_goto (tgt := 11) dX11_remember_36 (by decide) ?_
      refine sp_weak [true, true, true] [some (.ref 103), some (.int a1), some (.int (a2 + 1))] rfl ?_
      exact ih _ _ _ h
set_option maxRecDepth 100000 in
set_option maxHeartbeats 4000000 in
theorem tX11_remember_l41 {g : sp_G} {Ω : sp_Mem → Prop} {Q : sp_Qt} {F : Nat} {p : sp_Mem} (hG : sp_Ok Ω)  {kx : Int32 → sp_Mem → Option sp_Mem} (hQ : Q none p) (hx : ∀ (a1 : Int32) (M : sp_Mem), kx a1 M = some p → sp_Wp g Ω mX11_remember 0 0 67 [some (.ref 103), some (.int a1), none] [] M Q) : ∀ (n : Nat) (a1 : Int32) (a2 : Int32) (M : sp_Mem), fX11_remember_l41 F kx n a1 a2 M = some p → sp_Wp g Ω mX11_remember 0 0 41 [some (.ref 103), some (.int a1), some (.int a2)] [] M Q := by
  intro n
  induction n with
  | zero =>
    intro a1 a2 M h
    rw [fX11_remember_l41] at h
    cases h
  | succ n ih =>
    intro a1 a2 M h
    rw [fX11_remember_l41] at h
    refine sp_iload_n dX11_remember_41 rfl rfl ?_
    refine sp_bipush (v := 15) dX11_remember_42 (by decide) ?_
    refine sp_icmp_ge (tgt := 67) dX11_remember_44 (by decide) (fun hc12 => ?_) (fun hc12 => ?_)
    · have h := (if_pos hc12).symm.trans h
      refine sp_weak [true, true, false] [some (.ref 103), some (.int a1), none] rfl ?_
      exact hx _ _ h
    · have h := (if_neg hc12).symm.trans h
      refine sp_aload_n dX11_remember_47 rfl rfl ?_
      refine sp_use (fun ho => ?_)
      have hs := hG.1 _ ho
      refine sp_getR (RX11, TX11, 56) dX11_remember_48 clX11 (j := 7) (by decide) tw_1222 (wsI_103 hs) (Or.inr ⟨_, rfl⟩) (wsP_103_7 hs) ?_
      refine sp_iload_n dX11_remember_51 rfl rfl ?_
      refine sp_aload_n dX11_remember_52 rfl rfl ?_
      refine sp_getR (RX11, TX11, 56) dX11_remember_53 clX11 (j := 7) (by decide) tw_1222 (wsI_103 hs) (Or.inr ⟨_, rfl⟩) (wsP_103_7 hs) ?_
      refine sp_iload_n dX11_remember_56 rfl rfl ?_
      refine sp_iconst (v := 1) dX11_remember_57 (by decide) ?_
      refine sp_iadd dX11_remember_58 ?_
      obtain ⟨j13, hj13, h⟩ := Option.bind_eq_some_iff.mp h
      refine sp_iald2 (j := j13) dX11_remember_59 (wsA_109 hs) (wsN_109 hs) hj13 ?_
      obtain ⟨j14, hj14, h⟩ := Option.bind_eq_some_iff.mp h
      obtain ⟨M15, hM15, h⟩ := sp_do_e h
      refine sp_iast2 (j := j14) hG dX11_remember_60 (wsA_109 hs) (wsN_109 hs) hj14 hM15 ?_
      refine sp_iinc (v := (a2 + 1)) [some (.ref 103), some (.int a1), some (.int (a2 + 1))] dX11_remember_61 rfl rfl (by decide) rfl ?_
      refine sp_goto (tgt := 41) dX11_remember_64 (by decide) ?_
      refine sp_weak [true, true, true] [some (.ref 103), some (.int a1), some (.int (a2 + 1))] rfl ?_
      exact ih _ _ _ h
set_option maxRecDepth 100000 in
set_option maxHeartbeats 4000000 in
theorem tX11_remember {g : sp_G} {Ω : sp_Mem → Prop} {Q : sp_Qt} {F : Nat} {p : sp_Mem} (hG : sp_Ok Ω) {M : sp_Mem} {a1 : Int32} (h : fX11_remember F M a1 = some p) (hQ : Q none p) : sp_Mt g Ω mX11_remember 0 0 [.ref 103, .int a1] M Q := by
  unfold fX11_remember at h
  refine sp_Mt.of [some (.ref 103), some (.int a1), none] (by decide) (by simp [sp_ent, Value.category]) rfl ?_
  refine sp_aload_n dX11_remember_0 rfl rfl ?_
  refine sp_use (fun ho => ?_)
  have hs := hG.1 _ ho
  refine sp_getI (RX11, TX11, 56) dX11_remember_1 clX11 (j := 8) (by decide) tw_1223 (wsI_103 hs) (Or.inl rfl) ?_
  refine sp_bipush (v := 16) dX11_remember_4 (by decide) ?_
  refine sp_icmp_ne (tgt := 77) dX11_remember_6 (by decide) (fun hc1 => ?_) (fun hc1 => ?_)
  · have h := (if_neg hc1).symm.trans h
    refine sp_weak [true, true, false] [some (.ref 103), some (.int a1), none] rfl ?_
    exact tX11_remember_j77 hG hQ _ _ h
  · have h := (if_pos hc1).symm.trans h
    refine sp_iconst (v := 0) dX11_remember_9 (by decide) ?_
    refine sp_istore_n [some (.ref 103), some (.int a1), some (.int 0)] dX11_remember_10 rfl (by decide) rfl ?_
    refine sp_weak [true, true, true] [some (.ref 103), some (.int a1), some (.int 0)] rfl ?_
    refine tX11_remember_l11 hG hQ (fun b11 M10 h => ?_) F _ _ _ h
    refine sp_iconst (v := 0) dX11_remember_39 (by decide) ?_
    refine sp_istore_n [some (.ref 103), some (.int b11), some (.int 0)] dX11_remember_40 rfl (by decide) rfl ?_
    refine sp_weak [true, true, true] [some (.ref 103), some (.int b11), some (.int 0)] rfl ?_
    refine tX11_remember_l41 hG hQ (fun b17 M16 h => ?_) F _ _ _ h
    refine sp_aload_n dX11_remember_67 rfl rfl ?_
    refine sp_dup dX11_remember_68 rfl ?_
    refine sp_use (fun ho => ?_)
    have hs := hG.1 _ ho
    refine sp_getI (RX11, TX11, 56) dX11_remember_69 clX11 (j := 8) (by decide) tw_1223 (wsI_103 hs) (Or.inl rfl) ?_
    refine sp_iconst (v := 1) dX11_remember_72 (by decide) ?_
    refine sp_isub dX11_remember_73 ?_
    obtain ⟨M18, hM18, h⟩ := sp_do_e h
    refine sp_putI2 (RX11, TX11, 56) hG dX11_remember_74 clX11 (j := 8) (by decide) tw_1223 rfl (Or.inl rfl) (wsI_103 hs) hM18 ?_
    refine sp_weak [true, true, false] [some (.ref 103), some (.int b17), none] rfl ?_
    exact tX11_remember_j77 hG hQ _ _ h
def fX11_undo (F : Nat) (M : sp_Mem) : Option (Int32 × sp_Mem) :=
  sp_do (sp_setI M 103 0 0) fun M1 => if (sp_I M1 103 8) = 0 then ((fX11_tell M1 (-3)).bind fun x7 => some (x7.1, x7.2)) else (sp_do (sp_setI M1 103 8 ((sp_I M1 103 8) - 1)) fun M3 => (fX11_putBack F M3 (sp_I M3 103 8)).bind fun M4 => (sp_ix 16 (sp_I M4 103 8)).bind fun j5 => (fX11_tell M4 (sp_I M4 109 j5)).bind fun x6 => some (x6.1, x6.2))
set_option maxRecDepth 100000 in
set_option maxHeartbeats 4000000 in
theorem tX11_undo {g : sp_G} {Ω : sp_Mem → Prop} {Q : sp_Qt} {F : Nat} {p : (Int32 × sp_Mem)} (hG : sp_Ok Ω) {M : sp_Mem} (h : fX11_undo F M = some p) (hQ : Q (some (.int p.1)) p.2) : sp_Mt g Ω mX11_undo 0 0 [.ref 103] M Q := by
  unfold fX11_undo at h
  refine sp_Mt.of [some (.ref 103)] (by decide) (by simp [sp_ent, Value.category]) rfl ?_
  refine sp_aload_n dX11_undo_0 rfl rfl ?_
  refine sp_iconst (v := 0) dX11_undo_1 (by decide) ?_
  refine sp_use (fun ho => ?_)
  have hs := hG.1 _ ho
  obtain ⟨M1, hM1, h⟩ := sp_do_e h
  refine sp_putI2 (RX11, TX11, 56) hG dX11_undo_2 clX11 (j := 0) (by decide) tw_1215 rfl (Or.inl rfl) (wsI_103 hs) hM1 ?_
  refine sp_aload_n dX11_undo_5 rfl rfl ?_
  refine sp_use (fun ho => ?_)
  have hs := hG.1 _ ho
  refine sp_getI (RX11, TX11, 56) dX11_undo_6 clX11 (j := 8) (by decide) tw_1223 (wsI_103 hs) (Or.inl rfl) ?_
  refine sp_if_ne (tgt := 19) dX11_undo_9 (by decide) (fun hc2 => ?_) (fun hc2 => ?_)
  · have h := (if_neg hc2).symm.trans h
    refine sp_aload_n dX11_undo_19 rfl rfl ?_
    refine sp_dup dX11_undo_20 rfl ?_
    refine sp_getI (RX11, TX11, 56) dX11_undo_21 clX11 (j := 8) (by decide) tw_1223 (wsI_103 hs) (Or.inl rfl) ?_
    refine sp_iconst (v := 1) dX11_undo_24 (by decide) ?_
    refine sp_isub dX11_undo_25 ?_
    obtain ⟨M3, hM3, h⟩ := sp_do_e h
    refine sp_putI2 (RX11, TX11, 56) hG dX11_undo_26 clX11 (j := 8) (by decide) tw_1223 rfl (Or.inl rfl) (wsI_103 hs) hM3 ?_
    refine sp_aload_n dX11_undo_29 rfl rfl ?_
    refine sp_aload_n dX11_undo_30 rfl rfl ?_
    refine sp_use (fun ho => ?_)
    have hs := hG.1 _ ho
    refine sp_getI (RX11, TX11, 56) dX11_undo_31 clX11 (j := 8) (by decide) tw_1223 (wsI_103 hs) (Or.inl rfl) ?_
    obtain ⟨M4, hM4, h⟩ := Option.bind_eq_some_iff.mp h
    refine sp_cV (M1 := M4) (r := none) (o := 103) (st := []) (c := 10) (RX11, TX11, 56) [.int (sp_I M3 103 8)] [.int (sp_I M3 103 8), .ref 103] [] dX11_undo_34 okX11_putBack tw_1392 tw_1394 tw_28 (by decide) (by decide) rfl (Nat.le_of_ble_eq_true rfl) rfl rfl rfl rfl (wsI_103 hs) (fun Q hQ => tX11_putBack hG hM4 hQ) ?_
    refine sp_aload_n dX11_undo_37 rfl rfl ?_
    refine sp_aload_n dX11_undo_38 rfl rfl ?_
    refine sp_use (fun ho => ?_)
    have hs := hG.1 _ ho
    refine sp_getR (RX11, TX11, 56) dX11_undo_39 clX11 (j := 7) (by decide) tw_1222 (wsI_103 hs) (Or.inr ⟨_, rfl⟩) (wsP_103_7 hs) ?_
    refine sp_aload_n dX11_undo_42 rfl rfl ?_
    refine sp_getI (RX11, TX11, 56) dX11_undo_43 clX11 (j := 8) (by decide) tw_1223 (wsI_103 hs) (Or.inl rfl) ?_
    obtain ⟨j5, hj5, h⟩ := Option.bind_eq_some_iff.mp h
    refine sp_iald2 (j := j5) dX11_undo_46 (wsA_109 hs) (wsN_109 hs) hj5 ?_
    obtain ⟨x6, hx6, h⟩ := Option.bind_eq_some_iff.mp h
    refine sp_cV (M1 := x6.2) (r := some (.int x6.1)) (o := 103) (st := []) (c := 10) (RX11, TX11, 56) [.int (sp_I M4 109 j5)] [.int (sp_I M4 109 j5), .ref 103] [.int x6.1] dX11_undo_47 okX11_tell tw_1388 tw_1390 tw_27 (by decide) (by decide) rfl (Nat.le_of_ble_eq_true rfl) rfl rfl rfl rfl (wsI_103 hs) (fun Q hQ => tX11_tell hG hx6 hQ) ?_
    cases h
    exact sp_iret dX11_undo_50 (ty := .int) rfl rfl (fun _ => hQ)
  · have h := (if_pos hc2).symm.trans h
    refine sp_aload_n dX11_undo_12 rfl rfl ?_
    refine sp_bipush (v := (-3)) dX11_undo_13 (by decide) ?_
    obtain ⟨x7, hx7, h⟩ := Option.bind_eq_some_iff.mp h
    refine sp_cV (M1 := x7.2) (r := some (.int x7.1)) (o := 103) (st := []) (c := 10) (RX11, TX11, 56) [.int (-3)] [.int (-3), .ref 103] [.int x7.1] dX11_undo_15 okX11_tell tw_1388 tw_1390 tw_27 (by decide) (by decide) rfl (Nat.le_of_ble_eq_true rfl) rfl rfl rfl rfl (wsI_103 hs) (fun Q hQ => tX11_tell hG hx7 hQ) ?_
    cases h
    exact sp_iret dX11_undo_18 (ty := .int) rfl rfl (fun _ => hQ)
def fX11_image_l23 (F : Nat) (kx : Int32 → sp_Mem → Option (Int32 × sp_Mem)) : Nat → Int32 → Int32 → sp_Mem → Option (Int32 × sp_Mem)
  | 0, _, _, _ => none
  | n + 1, a1, a2, M =>
  if 5480 ≤ a2 then (kx a1 M) else ((sp_ix 5480 a2).bind fun j4 => (sp_ix 10960 ((5480 * a1) + a2)).bind fun j5 => sp_do (sp_setI M 106 j5 (sp_I M 105 j4)) fun M6 => (fX11_image_l23 F kx n) a1 (a2 + 1) M6)
def fX11_image (F : Nat) (M : sp_Mem) (a1 : Int32) : Option (Int32 × sp_Mem) :=
  sp_do (sp_setI M 103 0 0) fun M1 => if (fX11_in (Int32.toInt64 a1) 0 1) = 0 then ((fX11_tell M1 (-1)).bind fun x12 => some (x12.1, x12.2)) else (fX11_image_l23 F (fun b8 M7 => (sp_ix 2 b8).bind fun j9 => sp_do (sp_setI M7 107 j9 (vp_nar .boolean 1)) fun M10 => (fX11_tell M10 0).bind fun x11 => some (x11.1, x11.2)) F a1 0 M1)
set_option maxRecDepth 100000 in
set_option maxHeartbeats 4000000 in
theorem tX11_image_l23 {g : sp_G} {Ω : sp_Mem → Prop} {Q : sp_Qt} {F : Nat} {p : (Int32 × sp_Mem)} (hG : sp_Ok Ω)  {kx : Int32 → sp_Mem → Option (Int32 × sp_Mem)} (hQ : Q (some (.int p.1)) p.2) (hx : ∀ (a1 : Int32) (M : sp_Mem), kx a1 M = some p → sp_Wp g Ω mX11_image 0 0 54 [some (.ref 103), some (.int a1), none] [] M Q) : ∀ (n : Nat) (a1 : Int32) (a2 : Int32) (M : sp_Mem), fX11_image_l23 F kx n a1 a2 M = some p → sp_Wp g Ω mX11_image 0 0 23 [some (.ref 103), some (.int a1), some (.int a2)] [] M Q := by
  intro n
  induction n with
  | zero =>
    intro a1 a2 M h
    rw [fX11_image_l23] at h
    cases h
  | succ n ih =>
    intro a1 a2 M h
    rw [fX11_image_l23] at h
    refine sp_iload_n dX11_image_23 rfl rfl ?_
    refine sp_sipush (v := 5480) dX11_image_24 (by decide) ?_
    refine sp_icmp_ge (tgt := 54) dX11_image_27 (by decide) (fun hc3 => ?_) (fun hc3 => ?_)
    · have h := (if_pos hc3).symm.trans h
      refine sp_weak [true, true, false] [some (.ref 103), some (.int a1), none] rfl ?_
      exact hx _ _ h
    · have h := (if_neg hc3).symm.trans h
      refine sp_aload_n dX11_image_30 rfl rfl ?_
      refine sp_use (fun ho => ?_)
      have hs := hG.1 _ ho
      refine sp_getR (RX11, TX11, 56) dX11_image_31 clX11 (j := 4) (by decide) tw_1219 (wsI_103 hs) (Or.inr ⟨_, rfl⟩) (wsP_103_4 hs) ?_
      refine sp_sipush (v := 5480) dX11_image_34 (by decide) ?_
      refine sp_iload_n dX11_image_37 rfl rfl ?_
      refine sp_imul dX11_image_38 ?_
      refine sp_iload_n dX11_image_39 rfl rfl ?_
      refine sp_iadd dX11_image_40 ?_
      refine sp_aload_n dX11_image_41 rfl rfl ?_
      refine sp_getR (RX11, TX11, 56) dX11_image_42 clX11 (j := 3) (by decide) tw_1218 (wsI_103 hs) (Or.inr ⟨_, rfl⟩) (wsP_103_3 hs) ?_
      refine sp_iload_n dX11_image_45 rfl rfl ?_
      obtain ⟨j4, hj4, h⟩ := Option.bind_eq_some_iff.mp h
      refine sp_iald2 (j := j4) dX11_image_46 (wsA_105 hs) (wsN_105 hs) hj4 ?_
      obtain ⟨j5, hj5, h⟩ := Option.bind_eq_some_iff.mp h
      obtain ⟨M6, hM6, h⟩ := sp_do_e h
      refine sp_iast2 (j := j5) hG dX11_image_47 (wsA_106 hs) (wsN_106 hs) hj5 hM6 ?_
      refine sp_iinc (v := (a2 + 1)) [some (.ref 103), some (.int a1), some (.int (a2 + 1))] dX11_image_48 rfl rfl (by decide) rfl ?_
      refine sp_goto (tgt := 23) dX11_image_51 (by decide) ?_
      refine sp_weak [true, true, true] [some (.ref 103), some (.int a1), some (.int (a2 + 1))] rfl ?_
      exact ih _ _ _ h
set_option maxRecDepth 100000 in
set_option maxHeartbeats 4000000 in
theorem tX11_image {g : sp_G} {Ω : sp_Mem → Prop} {Q : sp_Qt} {F : Nat} {p : (Int32 × sp_Mem)} (hG : sp_Ok Ω) {M : sp_Mem} {a1 : Int32} (h : fX11_image F M a1 = some p) (hQ : Q (some (.int p.1)) p.2) : sp_Mt g Ω mX11_image 0 0 [.ref 103, .int a1] M Q := by
  unfold fX11_image at h
  refine sp_Mt.of [some (.ref 103), some (.int a1), none] (by decide) (by simp [sp_ent, Value.category]) rfl ?_
  refine sp_aload_n dX11_image_0 rfl rfl ?_
  refine sp_iconst (v := 0) dX11_image_1 (by decide) ?_
  refine sp_use (fun ho => ?_)
  have hs := hG.1 _ ho
  obtain ⟨M1, hM1, h⟩ := sp_do_e h
  refine sp_putI2 (RX11, TX11, 56) hG dX11_image_2 clX11 (j := 0) (by decide) tw_1215 rfl (Or.inl rfl) (wsI_103 hs) hM1 ?_
  refine sp_iload_n dX11_image_5 rfl rfl ?_
  refine sp_i2l dX11_image_6 ?_
  refine sp_lconst (v := 0) dX11_image_7 (by decide) ?_
  refine sp_lconst (v := 1) dX11_image_8 (by decide) ?_
  refine sp_use (fun ho => ?_)
  have hs := hG.1 _ ho
  refine sp_cS (M1 := M1) (r := some (.int (fX11_in (Int32.toInt64 a1) 0 1))) (st := []) [.long (Int32.toInt64 a1), .long 0, .long 1] [.long 1, .long 0, .long (Int32.toInt64 a1)] [.int (fX11_in (Int32.toInt64 a1) 0 1)] dX11_image_9 okX11_in tw_1400 tw_1401 (by decide) (by decide) rfl (Nat.le_of_ble_eq_true rfl) rfl rfl (fun Q hQ => tX11_in hG rfl hQ) ?_
  refine sp_if_ne (tgt := 21) dX11_image_12 (by decide) (fun hc2 => ?_) (fun hc2 => ?_)
  · have h := (if_neg hc2).symm.trans h
    refine sp_iconst (v := 0) dX11_image_21 (by decide) ?_
    refine sp_istore_n [some (.ref 103), some (.int a1), some (.int 0)] dX11_image_22 rfl (by decide) rfl ?_
    refine sp_weak [true, true, true] [some (.ref 103), some (.int a1), some (.int 0)] rfl ?_
    refine tX11_image_l23 hG hQ (fun b8 M7 h => ?_) F _ _ _ h
    refine sp_aload_n dX11_image_54 rfl rfl ?_
    refine sp_use (fun ho => ?_)
    have hs := hG.1 _ ho
    refine sp_getR (RX11, TX11, 56) dX11_image_55 clX11 (j := 5) (by decide) tw_1220 (wsI_103 hs) (Or.inr ⟨_, rfl⟩) (wsP_103_5 hs) ?_
    refine sp_iload_n dX11_image_58 rfl rfl ?_
    refine sp_iconst (v := 1) dX11_image_59 (by decide) ?_
    obtain ⟨j9, hj9, h⟩ := Option.bind_eq_some_iff.mp h
    obtain ⟨M10, hM10, h⟩ := sp_do_e h
    refine sp_zast2 (j := j9) hG dX11_image_60 (wsA_107 hs) (wsN_107 hs) hj9 hM10 ?_
    refine sp_aload_n dX11_image_61 rfl rfl ?_
    refine sp_iconst (v := 0) dX11_image_62 (by decide) ?_
    refine sp_use (fun ho => ?_)
    have hs := hG.1 _ ho
    obtain ⟨x11, hx11, h⟩ := Option.bind_eq_some_iff.mp h
    refine sp_cV (M1 := x11.2) (r := some (.int x11.1)) (o := 103) (st := []) (c := 10) (RX11, TX11, 56) [.int 0] [.int 0, .ref 103] [.int x11.1] dX11_image_63 okX11_tell tw_1388 tw_1390 tw_27 (by decide) (by decide) rfl (Nat.le_of_ble_eq_true rfl) rfl rfl rfl rfl (wsI_103 hs) (fun Q hQ => tX11_tell hG hx11 hQ) ?_
    cases h
    exact sp_iret dX11_image_66 (ty := .int) rfl rfl (fun _ => hQ)
  · have h := (if_pos hc2).symm.trans h
    refine sp_aload_n dX11_image_15 rfl rfl ?_
    refine sp_iconst (v := (-1)) dX11_image_16 (by decide) ?_
    obtain ⟨x12, hx12, h⟩ := Option.bind_eq_some_iff.mp h
    refine sp_cV (M1 := x12.2) (r := some (.int x12.1)) (o := 103) (st := []) (c := 10) (RX11, TX11, 56) [.int (-1)] [.int (-1), .ref 103] [.int x12.1] dX11_image_17 okX11_tell tw_1388 tw_1390 tw_27 (by decide) (by decide) rfl (Nat.le_of_ble_eq_true rfl) rfl rfl rfl rfl (wsI_103 hs) (fun Q hQ => tX11_tell hG hx12 hQ) ?_
    cases h
    exact sp_iret dX11_image_20 (ty := .int) rfl rfl (fun _ => hQ)
def fX11_back_l39 (F : Nat) (kx : sp_Mem → Option (Int32 × sp_Mem)) : Nat → Int32 → Int32 → sp_Mem → Option (Int32 × sp_Mem)
  | 0, _, _, _ => none
  | n + 1, a1, a2, M =>
  if 5480 ≤ a2 then (kx M) else ((sp_ix 10960 ((5480 * a1) + a2)).bind fun j6 => (sp_ix 5480 a2).bind fun j7 => sp_do (sp_setI M 105 j7 (sp_I M 106 j6)) fun M8 => (fX11_back_l39 F kx n) a1 (a2 + 1) M8)
def fX11_back (F : Nat) (M : sp_Mem) (a1 : Int32) : Option (Int32 × sp_Mem) :=
  sp_do (sp_setI M 103 0 0) fun M1 => if (fX11_in (Int32.toInt64 a1) 0 1) = 0 then ((fX11_tell M1 (-1)).bind fun x12 => some (x12.1, x12.2)) else ((sp_ix 2 a1).bind fun j3 => if (sp_I M1 107 j3) = 0 then ((fX11_tell M1 (-2)).bind fun x11 => some (x11.1, x11.2)) else (fX11_back_l39 F (fun M9 => (fX11_settled M9 0).bind fun x10 => some (x10.1, x10.2)) F a1 0 M1))
set_option maxRecDepth 100000 in
set_option maxHeartbeats 4000000 in
theorem tX11_back_l39 {g : sp_G} {Ω : sp_Mem → Prop} {Q : sp_Qt} {F : Nat} {p : (Int32 × sp_Mem)} (hG : sp_Ok Ω)  {kx : sp_Mem → Option (Int32 × sp_Mem)} (hQ : Q (some (.int p.1)) p.2) (hx : ∀  (M : sp_Mem), kx M = some p → sp_Wp g Ω mX11_back 0 0 70 [some (.ref 103), none, none] [] M Q) : ∀ (n : Nat) (a1 : Int32) (a2 : Int32) (M : sp_Mem), fX11_back_l39 F kx n a1 a2 M = some p → sp_Wp g Ω mX11_back 0 0 39 [some (.ref 103), some (.int a1), some (.int a2)] [] M Q := by
  intro n
  induction n with
  | zero =>
    intro a1 a2 M h
    rw [fX11_back_l39] at h
    cases h
  | succ n ih =>
    intro a1 a2 M h
    rw [fX11_back_l39] at h
    refine sp_iload_n dX11_back_39 rfl rfl ?_
    refine sp_sipush (v := 5480) dX11_back_40 (by decide) ?_
    refine sp_icmp_ge (tgt := 70) dX11_back_43 (by decide) (fun hc5 => ?_) (fun hc5 => ?_)
    · have h := (if_pos hc5).symm.trans h
      refine sp_weak [true, false, false] [some (.ref 103), none, none] rfl ?_
      exact hx _ h
    · have h := (if_neg hc5).symm.trans h
      refine sp_aload_n dX11_back_46 rfl rfl ?_
      refine sp_use (fun ho => ?_)
      have hs := hG.1 _ ho
      refine sp_getR (RX11, TX11, 56) dX11_back_47 clX11 (j := 3) (by decide) tw_1218 (wsI_103 hs) (Or.inr ⟨_, rfl⟩) (wsP_103_3 hs) ?_
      refine sp_iload_n dX11_back_50 rfl rfl ?_
      refine sp_aload_n dX11_back_51 rfl rfl ?_
      refine sp_getR (RX11, TX11, 56) dX11_back_52 clX11 (j := 4) (by decide) tw_1219 (wsI_103 hs) (Or.inr ⟨_, rfl⟩) (wsP_103_4 hs) ?_
      refine sp_sipush (v := 5480) dX11_back_55 (by decide) ?_
      refine sp_iload_n dX11_back_58 rfl rfl ?_
      refine sp_imul dX11_back_59 ?_
      refine sp_iload_n dX11_back_60 rfl rfl ?_
      refine sp_iadd dX11_back_61 ?_
      obtain ⟨j6, hj6, h⟩ := Option.bind_eq_some_iff.mp h
      refine sp_iald2 (j := j6) dX11_back_62 (wsA_106 hs) (wsN_106 hs) hj6 ?_
      obtain ⟨j7, hj7, h⟩ := Option.bind_eq_some_iff.mp h
      obtain ⟨M8, hM8, h⟩ := sp_do_e h
      refine sp_iast2 (j := j7) hG dX11_back_63 (wsA_105 hs) (wsN_105 hs) hj7 hM8 ?_
      refine sp_iinc (v := (a2 + 1)) [some (.ref 103), some (.int a1), some (.int (a2 + 1))] dX11_back_64 rfl rfl (by decide) rfl ?_
      refine sp_goto (tgt := 39) dX11_back_67 (by decide) ?_
      refine sp_weak [true, true, true] [some (.ref 103), some (.int a1), some (.int (a2 + 1))] rfl ?_
      exact ih _ _ _ h
set_option maxRecDepth 100000 in
set_option maxHeartbeats 4000000 in
theorem tX11_back {g : sp_G} {Ω : sp_Mem → Prop} {Q : sp_Qt} {F : Nat} {p : (Int32 × sp_Mem)} (hG : sp_Ok Ω) {M : sp_Mem} {a1 : Int32} (h : fX11_back F M a1 = some p) (hQ : Q (some (.int p.1)) p.2) : sp_Mt g Ω mX11_back 0 0 [.ref 103, .int a1] M Q := by
  unfold fX11_back at h
  refine sp_Mt.of [some (.ref 103), some (.int a1), none] (by decide) (by simp [sp_ent, Value.category]) rfl ?_
  refine sp_aload_n dX11_back_0 rfl rfl ?_
  refine sp_iconst (v := 0) dX11_back_1 (by decide) ?_
  refine sp_use (fun ho => ?_)
  have hs := hG.1 _ ho
  obtain ⟨M1, hM1, h⟩ := sp_do_e h
  refine sp_putI2 (RX11, TX11, 56) hG dX11_back_2 clX11 (j := 0) (by decide) tw_1215 rfl (Or.inl rfl) (wsI_103 hs) hM1 ?_
  refine sp_iload_n dX11_back_5 rfl rfl ?_
  refine sp_i2l dX11_back_6 ?_
  refine sp_lconst (v := 0) dX11_back_7 (by decide) ?_
  refine sp_lconst (v := 1) dX11_back_8 (by decide) ?_
  refine sp_use (fun ho => ?_)
  have hs := hG.1 _ ho
  refine sp_cS (M1 := M1) (r := some (.int (fX11_in (Int32.toInt64 a1) 0 1))) (st := []) [.long (Int32.toInt64 a1), .long 0, .long 1] [.long 1, .long 0, .long (Int32.toInt64 a1)] [.int (fX11_in (Int32.toInt64 a1) 0 1)] dX11_back_9 okX11_in tw_1400 tw_1401 (by decide) (by decide) rfl (Nat.le_of_ble_eq_true rfl) rfl rfl (fun Q hQ => tX11_in hG rfl hQ) ?_
  refine sp_if_ne (tgt := 21) dX11_back_12 (by decide) (fun hc2 => ?_) (fun hc2 => ?_)
  · have h := (if_neg hc2).symm.trans h
    refine sp_aload_n dX11_back_21 rfl rfl ?_
    refine sp_getR (RX11, TX11, 56) dX11_back_22 clX11 (j := 5) (by decide) tw_1220 (wsI_103 hs) (Or.inr ⟨_, rfl⟩) (wsP_103_5 hs) ?_
    refine sp_iload_n dX11_back_25 rfl rfl ?_
    obtain ⟨j3, hj3, h⟩ := Option.bind_eq_some_iff.mp h
    refine sp_zald2 (j := j3) dX11_back_26 (wsA_107 hs) (wsN_107 hs) hj3 ?_
    refine sp_if_ne (tgt := 37) dX11_back_27 (by decide) (fun hc4 => ?_) (fun hc4 => ?_)
    · have h := (if_neg hc4).symm.trans h
      refine sp_iconst (v := 0) dX11_back_37 (by decide) ?_
      refine sp_istore_n [some (.ref 103), some (.int a1), some (.int 0)] dX11_back_38 rfl (by decide) rfl ?_
      refine sp_weak [true, true, true] [some (.ref 103), some (.int a1), some (.int 0)] rfl ?_
      refine tX11_back_l39 hG hQ (fun M9 h => ?_) F _ _ _ h
      refine sp_aload_n dX11_back_70 rfl rfl ?_
      refine sp_iconst (v := 0) dX11_back_71 (by decide) ?_
      refine sp_use (fun ho => ?_)
      have hs := hG.1 _ ho
      obtain ⟨x10, hx10, h⟩ := Option.bind_eq_some_iff.mp h
      refine sp_cV (M1 := x10.2) (r := some (.int x10.1)) (o := 103) (st := []) (c := 10) (RX11, TX11, 56) [.int 0] [.int 0, .ref 103] [.int x10.1] dX11_back_72 okX11_settled tw_1407 tw_1409 tw_29 (by decide) (by decide) rfl (Nat.le_of_ble_eq_true rfl) rfl rfl rfl rfl (wsI_103 hs) (fun Q hQ => tX11_settled hG hx10 hQ) ?_
      cases h
      exact sp_iret dX11_back_75 (ty := .int) rfl rfl (fun _ => hQ)
    · have h := (if_pos hc4).symm.trans h
      refine sp_aload_n dX11_back_30 rfl rfl ?_
      refine sp_bipush (v := (-2)) dX11_back_31 (by decide) ?_
      obtain ⟨x11, hx11, h⟩ := Option.bind_eq_some_iff.mp h
      refine sp_cV (M1 := x11.2) (r := some (.int x11.1)) (o := 103) (st := []) (c := 10) (RX11, TX11, 56) [.int (-2)] [.int (-2), .ref 103] [.int x11.1] dX11_back_33 okX11_tell tw_1388 tw_1390 tw_27 (by decide) (by decide) rfl (Nat.le_of_ble_eq_true rfl) rfl rfl rfl rfl (wsI_103 hs) (fun Q hQ => tX11_tell hG hx11 hQ) ?_
      cases h
      exact sp_iret dX11_back_36 (ty := .int) rfl rfl (fun _ => hQ)
  · have h := (if_pos hc2).symm.trans h
    refine sp_aload_n dX11_back_15 rfl rfl ?_
    refine sp_iconst (v := (-1)) dX11_back_16 (by decide) ?_
    obtain ⟨x12, hx12, h⟩ := Option.bind_eq_some_iff.mp h
    refine sp_cV (M1 := x12.2) (r := some (.int x12.1)) (o := 103) (st := []) (c := 10) (RX11, TX11, 56) [.int (-1)] [.int (-1), .ref 103] [.int x12.1] dX11_back_17 okX11_tell tw_1388 tw_1390 tw_27 (by decide) (by decide) rfl (Nat.le_of_ble_eq_true rfl) rfl rfl rfl rfl (wsI_103 hs) (fun Q hQ => tX11_tell hG hx12 hQ) ?_
    cases h
    exact sp_iret dX11_back_20 (ty := .int) rfl rfl (fun _ => hQ)
def fX11_isSpark (M0 : sp_Mem) (a1 : Int32) : Option Int32 :=
  some (fX11_in (Int32.toInt64 a1) 0 ((Int32.toInt64 (sp_I M0 105 0)) - 1))
set_option maxRecDepth 100000 in
set_option maxHeartbeats 4000000 in
theorem tX11_isSpark {g : sp_G} {Ω : sp_Mem → Prop} {Q : sp_Qt} {M0 : sp_Mem} {p : Int32} (hG : sp_Ok Ω) {a1 : Int32} (h : fX11_isSpark M0 a1 = some p) (hQ : Q (some (.int p)) M0) : sp_Mt g Ω mX11_isSpark 0 0 [.ref 103, .int a1] M0 Q := by
  unfold fX11_isSpark at h
  refine sp_Mt.of [some (.ref 103), some (.int a1)] (by decide) (by simp [sp_ent, Value.category]) rfl ?_
  refine sp_iload_n dX11_isSpark_0 rfl rfl ?_
  refine sp_i2l dX11_isSpark_1 ?_
  refine sp_lconst (v := 0) dX11_isSpark_2 (by decide) ?_
  refine sp_aload_n dX11_isSpark_3 rfl rfl ?_
  refine sp_use (fun ho => ?_)
  have hs := hG.1 _ ho
  refine sp_getR (RX11, TX11, 56) dX11_isSpark_4 clX11 (j := 3) (by decide) tw_1218 (wsI_103 hs) (Or.inr ⟨_, rfl⟩) (wsP_103_3 hs) ?_
  refine sp_iconst (v := 0) dX11_isSpark_7 (by decide) ?_
  refine sp_iald2 (j := 0) dX11_isSpark_8 (wsA_105 hs) (wsN_105 hs) rfl ?_
  refine sp_i2l dX11_isSpark_9 ?_
  refine sp_lconst (v := 1) dX11_isSpark_10 (by decide) ?_
  refine sp_lsub dX11_isSpark_11 ?_
  refine sp_cS (M1 := M0) (r := some (.int (fX11_in (Int32.toInt64 a1) 0 ((Int32.toInt64 (sp_I M0 105 0)) - 1)))) (st := []) [.long (Int32.toInt64 a1), .long 0, .long ((Int32.toInt64 (sp_I M0 105 0)) - 1)] [.long ((Int32.toInt64 (sp_I M0 105 0)) - 1), .long 0, .long (Int32.toInt64 a1)] [.int (fX11_in (Int32.toInt64 a1) 0 ((Int32.toInt64 (sp_I M0 105 0)) - 1))] dX11_isSpark_12 okX11_in tw_1400 tw_1401 (by decide) (by decide) rfl (Nat.le_of_ble_eq_true rfl) rfl rfl (fun Q hQ => tX11_in hG rfl hQ) ?_
  cases h
  exact sp_iret dX11_isSpark_15 (ty := .boolean) rfl (sp_nz (bX11_in _ _ _)) (fun _ => hQ)
def fX11_isPerson (M0 : sp_Mem) (a1 : Int32) : Option Int32 :=
  some (fX11_in (Int32.toInt64 a1) 0 ((Int32.toInt64 (sp_I M0 105 1)) - 1))
set_option maxRecDepth 100000 in
set_option maxHeartbeats 4000000 in
theorem tX11_isPerson {g : sp_G} {Ω : sp_Mem → Prop} {Q : sp_Qt} {M0 : sp_Mem} {p : Int32} (hG : sp_Ok Ω) {a1 : Int32} (h : fX11_isPerson M0 a1 = some p) (hQ : Q (some (.int p)) M0) : sp_Mt g Ω mX11_isPerson 0 0 [.ref 103, .int a1] M0 Q := by
  unfold fX11_isPerson at h
  refine sp_Mt.of [some (.ref 103), some (.int a1)] (by decide) (by simp [sp_ent, Value.category]) rfl ?_
  refine sp_iload_n dX11_isPerson_0 rfl rfl ?_
  refine sp_i2l dX11_isPerson_1 ?_
  refine sp_lconst (v := 0) dX11_isPerson_2 (by decide) ?_
  refine sp_aload_n dX11_isPerson_3 rfl rfl ?_
  refine sp_use (fun ho => ?_)
  have hs := hG.1 _ ho
  refine sp_getR (RX11, TX11, 56) dX11_isPerson_4 clX11 (j := 3) (by decide) tw_1218 (wsI_103 hs) (Or.inr ⟨_, rfl⟩) (wsP_103_3 hs) ?_
  refine sp_iconst (v := 1) dX11_isPerson_7 (by decide) ?_
  refine sp_iald2 (j := 1) dX11_isPerson_8 (wsA_105 hs) (wsN_105 hs) rfl ?_
  refine sp_i2l dX11_isPerson_9 ?_
  refine sp_lconst (v := 1) dX11_isPerson_10 (by decide) ?_
  refine sp_lsub dX11_isPerson_11 ?_
  refine sp_cS (M1 := M0) (r := some (.int (fX11_in (Int32.toInt64 a1) 0 ((Int32.toInt64 (sp_I M0 105 1)) - 1)))) (st := []) [.long (Int32.toInt64 a1), .long 0, .long ((Int32.toInt64 (sp_I M0 105 1)) - 1)] [.long ((Int32.toInt64 (sp_I M0 105 1)) - 1), .long 0, .long (Int32.toInt64 a1)] [.int (fX11_in (Int32.toInt64 a1) 0 ((Int32.toInt64 (sp_I M0 105 1)) - 1))] dX11_isPerson_12 okX11_in tw_1400 tw_1401 (by decide) (by decide) rfl (Nat.le_of_ble_eq_true rfl) rfl rfl (fun Q hQ => tX11_in hG rfl hQ) ?_
  cases h
  exact sp_iret dX11_isPerson_15 (ty := .boolean) rfl (sp_nz (bX11_in _ _ _)) (fun _ => hQ)
def fX11_isCell (a0 : Int32) : Int32 :=
  (fX11_in (Int32.toInt64 a0) 0 24)
set_option maxRecDepth 100000 in
set_option maxHeartbeats 4000000 in
theorem tX11_isCell {g : sp_G} {Ω : sp_Mem → Prop} {Q : sp_Qt} {M0 : sp_Mem} {p : Int32} (hG : sp_Ok Ω) {a0 : Int32} (h : fX11_isCell a0 = p) (hQ : Q (some (.int p)) M0) : sp_Mt g Ω mX11_isCell 0 0 [.int a0] M0 Q := by
  unfold fX11_isCell at h
  refine sp_Mt.of [some (.int a0)] (by decide) (by simp [sp_ent, Value.category]) rfl ?_
  refine sp_iload_n dX11_isCell_0 rfl rfl ?_
  refine sp_i2l dX11_isCell_1 ?_
  refine sp_lconst (v := 0) dX11_isCell_2 (by decide) ?_
  refine sp_ldc2 (v := 24) dX11_isCell_3 tw_1196 ?_
  refine sp_use (fun ho => ?_)
  have hs := hG.1 _ ho
  refine sp_cS (M1 := M0) (r := some (.int (fX11_in (Int32.toInt64 a0) 0 24))) (st := []) [.long (Int32.toInt64 a0), .long 0, .long 24] [.long 24, .long 0, .long (Int32.toInt64 a0)] [.int (fX11_in (Int32.toInt64 a0) 0 24)] dX11_isCell_6 okX11_in tw_1400 tw_1401 (by decide) (by decide) rfl (Nat.le_of_ble_eq_true rfl) rfl rfl (fun Q hQ => tX11_in hG rfl hQ) ?_
  cases h
  exact sp_iret dX11_isCell_9 (ty := .boolean) rfl (sp_nz (bX11_in _ _ _)) (fun _ => hQ)
theorem bX11_isCell (a0 : Int32) : fX11_isCell a0 = 0 ∨ fX11_isCell a0 = 1 := by
  unfold fX11_isCell
  repeat (first | exact Or.inl rfl | exact Or.inr rfl | exact bX11_in _ _ _ | split)
def fX11_isLoose (M0 : sp_Mem) (a1 : Int32) : Option Int32 :=
  (sp_ix 5480 (9 + a1)).bind fun j1 => some (if (sp_I M0 105 j1) = (-1) then 0 else 1)
set_option maxRecDepth 100000 in
set_option maxHeartbeats 4000000 in
theorem tX11_isLoose {g : sp_G} {Ω : sp_Mem → Prop} {Q : sp_Qt} {M0 : sp_Mem} {p : Int32} (hG : sp_Ok Ω) {a1 : Int32} (h : fX11_isLoose M0 a1 = some p) (hQ : Q (some (.int p)) M0) : sp_Mt g Ω mX11_isLoose 0 0 [.ref 103, .int a1] M0 Q := by
  unfold fX11_isLoose at h
  refine sp_Mt.of [some (.ref 103), some (.int a1)] (by decide) (by simp [sp_ent, Value.category]) rfl ?_
  refine sp_aload_n dX11_isLoose_0 rfl rfl ?_
  refine sp_use (fun ho => ?_)
  have hs := hG.1 _ ho
  refine sp_getR (RX11, TX11, 56) dX11_isLoose_1 clX11 (j := 3) (by decide) tw_1218 (wsI_103 hs) (Or.inr ⟨_, rfl⟩) (wsP_103_3 hs) ?_
  refine sp_bipush (v := 9) dX11_isLoose_4 (by decide) ?_
  refine sp_iload_n dX11_isLoose_6 rfl rfl ?_
  refine sp_iadd dX11_isLoose_7 ?_
  obtain ⟨j1, hj1, h⟩ := Option.bind_eq_some_iff.mp h
  refine sp_iald2 (j := j1) dX11_isLoose_8 (wsA_105 hs) (wsN_105 hs) hj1 ?_
  refine sp_iconst (v := (-1)) dX11_isLoose_9 (by decide) ?_
  suffices hj : sp_Wp g Ω mX11_isLoose 0 0 18 [none, none] [.int (if (sp_I M0 105 j1) = (-1) then 0 else 1)] M0 Q by
    refine sp_icmp_eq (tgt := 17) dX11_isLoose_10 (by decide) (fun hc2 => ?_) (fun hc2 => ?_)
    · refine sp_iconst (v := 0) dX11_isLoose_17 (by decide) ?_
      refine sp_weak [false, false] [none, none] rfl ?_
      simp only [if_pos hc2] at hj
      exact hj
    · refine sp_iconst (v := 1) dX11_isLoose_13 (by decide) ?_
      refine sp_goto (tgt := 18) dX11_isLoose_14 (by decide) ?_
      refine sp_weak [false, false] [none, none] rfl ?_
      simp only [if_neg hc2] at hj
      exact hj
  cases h
  exact sp_iret dX11_isLoose_18 (ty := .boolean) rfl (sp_nz (by repeat (first | exact Or.inl rfl | exact Or.inr rfl | split))) (fun _ => hQ)
def fX11_apart_j26 (a3 : Int32) (s0 : Int32) : Option Int32 :=
  some (s0 + (if 0 ≤ a3 then a3 else (-a3)))
def fX11_apart (a0 : Int32) (a1 : Int32) : Option Int32 :=
  sp_do (((a0 / 5) - (a1 / 5))) fun u1 => sp_do (((a0 - a0 / 5 * 5) - (a1 - a1 / 5 * 5))) fun u2 => fX11_apart_j26 u2 (if 0 ≤ u1 then u1 else (-u1))
set_option maxRecDepth 100000 in
set_option maxHeartbeats 4000000 in
theorem tX11_apart_j26 {g : sp_G} {Ω : sp_Mem → Prop} {Q : sp_Qt} {M0 : sp_Mem} {p : Int32} (hG : sp_Ok Ω)  (hQ : Q (some (.int p)) M0) (a3 : Int32) (s0 : Int32) (h : fX11_apart_j26 a3 s0 = some p) : sp_Wp g Ω mX11_apart 0 0 26 [none, none, none, some (.int a3)] [.int s0] M0 Q := by
  unfold fX11_apart_j26 at h
  refine sp_iload_n dX11_apart_26 rfl rfl ?_
  suffices hj : sp_Wp g Ω mX11_apart 0 0 36 [none, none, none, none] [.int (if 0 ≤ a3 then a3 else (-a3)), .int s0] M0 Q by
    refine sp_if_ge (tgt := 35) dX11_apart_27 (by decide) (fun hc4 => ?_) (fun hc4 => ?_)
    · refine sp_iload_n dX11_apart_35 rfl rfl ?_
      refine sp_weak [false, false, false, false] [none, none, none, none] rfl ?_
      simp only [if_pos hc4] at hj
      exact hj
    · refine sp_iload_n dX11_apart_30 rfl rfl ?_
      refine sp_ineg dX11_apart_31 ?_
      refine sp_goto (tgt := 36) dX11_apart_32 (by decide) ?_
      refine sp_weak [false, false, false, false] [none, none, none, none] rfl ?_
      simp only [if_neg hc4] at hj
      exact hj
  refine sp_iadd dX11_apart_36 ?_
  cases h
  exact sp_iret dX11_apart_37 (ty := .int) rfl rfl (fun _ => hQ)
set_option maxRecDepth 100000 in
set_option maxHeartbeats 4000000 in
theorem tX11_apart {g : sp_G} {Ω : sp_Mem → Prop} {Q : sp_Qt} {M0 : sp_Mem} {p : Int32} (hG : sp_Ok Ω) {a0 : Int32} {a1 : Int32} (h : fX11_apart a0 a1 = some p) (hQ : Q (some (.int p)) M0) : sp_Mt g Ω mX11_apart 0 0 [.int a0, .int a1] M0 Q := by
  unfold fX11_apart at h
  refine sp_Mt.of [some (.int a0), some (.int a1), none, none] (by decide) (by simp [sp_ent, Value.category]) rfl ?_
  refine sp_iload_n dX11_apart_0 rfl rfl ?_
  refine sp_iconst (v := 5) dX11_apart_1 (by decide) ?_
  refine sp_idiv dX11_apart_2 (by decide) ?_
  refine sp_iload_n dX11_apart_3 rfl rfl ?_
  refine sp_iconst (v := 5) dX11_apart_4 (by decide) ?_
  refine sp_idiv dX11_apart_5 (by decide) ?_
  refine sp_isub dX11_apart_6 ?_
  obtain ⟨u1, hu1, h⟩ := sp_do_e h
  refine sp_topi hu1 ?_
  refine sp_istore_n [some (.int a0), some (.int a1), some (.int u1), none] dX11_apart_7 rfl (by decide) rfl ?_
  refine sp_iload_n dX11_apart_8 rfl rfl ?_
  refine sp_iconst (v := 5) dX11_apart_9 (by decide) ?_
  refine sp_irem dX11_apart_10 (by decide) ?_
  refine sp_iload_n dX11_apart_11 rfl rfl ?_
  refine sp_iconst (v := 5) dX11_apart_12 (by decide) ?_
  refine sp_irem dX11_apart_13 (by decide) ?_
  refine sp_isub dX11_apart_14 ?_
  obtain ⟨u2, hu2, h⟩ := sp_do_e h
  refine sp_topi hu2 ?_
  refine sp_istore_n [some (.int a0), some (.int a1), some (.int u1), some (.int u2)] dX11_apart_15 rfl (by decide) rfl ?_
  refine sp_iload_n dX11_apart_16 rfl rfl ?_
  suffices hj : sp_Wp g Ω mX11_apart 0 0 26 [none, none, none, some (.int u2)] [.int (if 0 ≤ u1 then u1 else (-u1))] M0 Q by
    refine sp_if_ge (tgt := 25) dX11_apart_17 (by decide) (fun hc3 => ?_) (fun hc3 => ?_)
    · refine sp_iload_n dX11_apart_25 rfl rfl ?_
      refine sp_weak [false, false, false, true] [none, none, none, some (.int u2)] rfl ?_
      simp only [if_pos hc3] at hj
      exact hj
    · refine sp_iload_n dX11_apart_20 rfl rfl ?_
      refine sp_ineg dX11_apart_21 ?_
      refine sp_goto (tgt := 26) dX11_apart_22 (by decide) ?_
      refine sp_weak [false, false, false, true] [none, none, none, some (.int u2)] rfl ?_
      simp only [if_neg hc3] at hj
      exact hj
  refine sp_weak [false, false, false, true] [none, none, none, some (.int u2)] rfl ?_
  exact tX11_apart_j26 hG hQ _ _ h
def fX11_nextTo_j46 (a2 : Int32) (s0 : Int32) (s1 : Int32) : Option Int32 :=
  if (fX11_in (Int32.toInt64 a2) 0 4) = 0 then (some (-1)) else (if (fX11_in (Int32.toInt64 (s1 + s0)) 0 4) = 0 then (some (-1)) else (some ((5 * a2) + (s1 + s0))))
def fX11_nextTo_j22 (a0 : Int32) (a1 : Int32) (s0 : Int32) (s1 : Int32) : Option Int32 :=
  fX11_nextTo_j46 (s1 + s0) (if a1 = 2 then 1 else (if a1 = 4 then (-1) else 0)) (a0 - a0 / 5 * 5)
def fX11_nextTo (a0 : Int32) (a1 : Int32) : Option Int32 :=
  fX11_nextTo_j22 a0 a1 (if a1 = 1 then 1 else (if a1 = 3 then (-1) else 0)) (a0 / 5)
set_option maxRecDepth 100000 in
set_option maxHeartbeats 4000000 in
theorem tX11_nextTo_j46 {g : sp_G} {Ω : sp_Mem → Prop} {Q : sp_Qt} {M0 : sp_Mem} {p : Int32} (hG : sp_Ok Ω)  (hQ : Q (some (.int p)) M0) (a2 : Int32) (s0 : Int32) (s1 : Int32) (h : fX11_nextTo_j46 a2 s0 s1 = some p) : sp_Wp g Ω mX11_nextTo 0 0 46 [none, none, some (.int a2), none] [.int s0, .int s1] M0 Q := by
  unfold fX11_nextTo_j46 at h
  refine sp_iadd dX11_nextTo_46 ?_
  refine sp_istore_n [none, none, some (.int a2), some (.int (s1 + s0))] dX11_nextTo_47 rfl (by decide) rfl ?_
  refine sp_iload_n dX11_nextTo_48 rfl rfl ?_
  refine sp_i2l dX11_nextTo_49 ?_
  refine sp_lconst (v := 0) dX11_nextTo_50 (by decide) ?_
  refine sp_ldc2 (v := 4) dX11_nextTo_51 tw_1715 ?_
  refine sp_use (fun ho => ?_)
  have hs := hG.1 _ ho
  refine sp_cS (M1 := M0) (r := some (.int (fX11_in (Int32.toInt64 a2) 0 4))) (st := []) [.long (Int32.toInt64 a2), .long 0, .long 4] [.long 4, .long 0, .long (Int32.toInt64 a2)] [.int (fX11_in (Int32.toInt64 a2) 0 4)] dX11_nextTo_54 okX11_in tw_1400 tw_1401 (by decide) (by decide) rfl (Nat.le_of_ble_eq_true rfl) rfl rfl (fun Q hQ => tX11_in hG rfl hQ) ?_
  refine sp_if_eq (tgt := 80) dX11_nextTo_57 (by decide) (fun hc5 => ?_) (fun hc5 => ?_)
  · have h := (if_pos hc5).symm.trans h
    refine sp_iconst (v := (-1)) dX11_nextTo_80 (by decide) ?_
    cases h
    exact sp_iret dX11_nextTo_81 (ty := .int) rfl rfl (fun _ => hQ)
  · have h := (if_neg hc5).symm.trans h
    refine sp_iload_n dX11_nextTo_60 rfl rfl ?_
    refine sp_i2l dX11_nextTo_61 ?_
    refine sp_lconst (v := 0) dX11_nextTo_62 (by decide) ?_
    refine sp_ldc2 (v := 4) dX11_nextTo_63 tw_1715 ?_
    refine sp_cS (M1 := M0) (r := some (.int (fX11_in (Int32.toInt64 (s1 + s0)) 0 4))) (st := []) [.long (Int32.toInt64 (s1 + s0)), .long 0, .long 4] [.long 4, .long 0, .long (Int32.toInt64 (s1 + s0))] [.int (fX11_in (Int32.toInt64 (s1 + s0)) 0 4)] dX11_nextTo_66 okX11_in tw_1400 tw_1401 (by decide) (by decide) rfl (Nat.le_of_ble_eq_true rfl) rfl rfl (fun Q hQ => tX11_in hG rfl hQ) ?_
    refine sp_if_eq (tgt := 80) dX11_nextTo_69 (by decide) (fun hc6 => ?_) (fun hc6 => ?_)
    · have h := (if_pos hc6).symm.trans h
      refine sp_iconst (v := (-1)) dX11_nextTo_80 (by decide) ?_
      cases h
      exact sp_iret dX11_nextTo_81 (ty := .int) rfl rfl (fun _ => hQ)
    · have h := (if_neg hc6).symm.trans h
      refine sp_iconst (v := 5) dX11_nextTo_72 (by decide) ?_
      refine sp_iload_n dX11_nextTo_73 rfl rfl ?_
      refine sp_imul dX11_nextTo_74 ?_
      refine sp_iload_n dX11_nextTo_75 rfl rfl ?_
      refine sp_iadd dX11_nextTo_76 ?_
      refine sp_goto (tgt := 81) dX11_nextTo_77 (by decide) ?_
      cases h
      exact sp_iret dX11_nextTo_81 (ty := .int) rfl rfl (fun _ => hQ)
set_option maxRecDepth 100000 in
set_option maxHeartbeats 4000000 in
theorem tX11_nextTo_j22 {g : sp_G} {Ω : sp_Mem → Prop} {Q : sp_Qt} {M0 : sp_Mem} {p : Int32} (hG : sp_Ok Ω)  (hQ : Q (some (.int p)) M0) (a0 : Int32) (a1 : Int32) (s0 : Int32) (s1 : Int32) (h : fX11_nextTo_j22 a0 a1 s0 s1 = some p) : sp_Wp g Ω mX11_nextTo 0 0 22 [some (.int a0), some (.int a1), none, none] [.int s0, .int s1] M0 Q := by
  unfold fX11_nextTo_j22 at h
  refine sp_iadd dX11_nextTo_22 ?_
  refine sp_istore_n [some (.int a0), some (.int a1), some (.int (s1 + s0)), none] dX11_nextTo_23 rfl (by decide) rfl ?_
  refine sp_iload_n dX11_nextTo_24 rfl rfl ?_
  refine sp_iconst (v := 5) dX11_nextTo_25 (by decide) ?_
  refine sp_irem dX11_nextTo_26 (by decide) ?_
  refine sp_iload_n dX11_nextTo_27 rfl rfl ?_
  refine sp_iconst (v := 2) dX11_nextTo_28 (by decide) ?_
  suffices hj : sp_Wp g Ω mX11_nextTo 0 0 46 [none, none, some (.int (s1 + s0)), none] [.int (if a1 = 2 then 1 else (if a1 = 4 then (-1) else 0)), .int (a0 - a0 / 5 * 5)] M0 Q by
    refine sp_icmp_ne (tgt := 36) dX11_nextTo_29 (by decide) (fun hc3 => ?_) (fun hc3 => ?_)
    · refine sp_iload_n dX11_nextTo_36 rfl rfl ?_
      refine sp_iconst (v := 4) dX11_nextTo_37 (by decide) ?_
      refine sp_icmp_ne (tgt := 45) dX11_nextTo_38 (by decide) (fun hc4 => ?_) (fun hc4 => ?_)
      · refine sp_iconst (v := 0) dX11_nextTo_45 (by decide) ?_
        refine sp_weak [false, false, true, false] [none, none, some (.int (s1 + s0)), none] rfl ?_
        simp only [if_neg hc3, if_neg hc4] at hj
        exact hj
      · refine sp_iconst (v := (-1)) dX11_nextTo_41 (by decide) ?_
        refine sp_goto (tgt := 46) dX11_nextTo_42 (by decide) ?_
        refine sp_weak [false, false, true, false] [none, none, some (.int (s1 + s0)), none] rfl ?_
        simp only [if_neg hc3, if_pos hc4] at hj
        exact hj
    · refine sp_iconst (v := 1) dX11_nextTo_32 (by decide) ?_
      refine sp_goto (tgt := 46) dX11_nextTo_33 (by decide) ?_
      refine sp_weak [false, false, true, false] [none, none, some (.int (s1 + s0)), none] rfl ?_
      simp only [if_pos hc3] at hj
      exact hj
  refine sp_weak [false, false, true, false] [none, none, some (.int (s1 + s0)), none] rfl ?_
  exact tX11_nextTo_j46 hG hQ _ _ _ h
set_option maxRecDepth 100000 in
set_option maxHeartbeats 4000000 in
theorem tX11_nextTo {g : sp_G} {Ω : sp_Mem → Prop} {Q : sp_Qt} {M0 : sp_Mem} {p : Int32} (hG : sp_Ok Ω) {a0 : Int32} {a1 : Int32} (h : fX11_nextTo a0 a1 = some p) (hQ : Q (some (.int p)) M0) : sp_Mt g Ω mX11_nextTo 0 0 [.int a0, .int a1] M0 Q := by
  unfold fX11_nextTo at h
  refine sp_Mt.of [some (.int a0), some (.int a1), none, none] (by decide) (by simp [sp_ent, Value.category]) rfl ?_
  refine sp_iload_n dX11_nextTo_0 rfl rfl ?_
  refine sp_iconst (v := 5) dX11_nextTo_1 (by decide) ?_
  refine sp_idiv dX11_nextTo_2 (by decide) ?_
  refine sp_iload_n dX11_nextTo_3 rfl rfl ?_
  refine sp_iconst (v := 1) dX11_nextTo_4 (by decide) ?_
  suffices hj : sp_Wp g Ω mX11_nextTo 0 0 22 [some (.int a0), some (.int a1), none, none] [.int (if a1 = 1 then 1 else (if a1 = 3 then (-1) else 0)), .int (a0 / 5)] M0 Q by
    refine sp_icmp_ne (tgt := 12) dX11_nextTo_5 (by decide) (fun hc1 => ?_) (fun hc1 => ?_)
    · refine sp_iload_n dX11_nextTo_12 rfl rfl ?_
      refine sp_iconst (v := 3) dX11_nextTo_13 (by decide) ?_
      refine sp_icmp_ne (tgt := 21) dX11_nextTo_14 (by decide) (fun hc2 => ?_) (fun hc2 => ?_)
      · refine sp_iconst (v := 0) dX11_nextTo_21 (by decide) ?_
        simp only [if_neg hc1, if_neg hc2] at hj
        exact hj
      · refine sp_iconst (v := (-1)) dX11_nextTo_17 (by decide) ?_
        refine sp_goto (tgt := 22) dX11_nextTo_18 (by decide) ?_
        simp only [if_neg hc1, if_pos hc2] at hj
        exact hj
    · refine sp_iconst (v := 1) dX11_nextTo_8 (by decide) ?_
      refine sp_goto (tgt := 22) dX11_nextTo_9 (by decide) ?_
      simp only [if_pos hc1] at hj
      exact hj
  refine sp_weak [true, true, false, false] [some (.int a0), some (.int a1), none, none] rfl ?_
  exact tX11_nextTo_j22 hG hQ _ _ _ _ h
def fX11_looseOnes_l4 (F : Nat) (M0 : sp_Mem) (kx : Int32 → Option Int32) : Nat → Int32 → Int32 → Option Int32
  | 0, _, _ => none
  | n + 1, a1, a2 =>
  if (sp_I M0 105 0) ≤ a2 then (kx a1) else ((fX11_isLoose M0 a2).bind fun v2 => if v2 = 0 then ((fX11_looseOnes_l4 F M0 kx n) (a1 ||| 0) (a2 + 1)) else (sp_do ((a1 ||| (1 <<< (a2 &&& 31)))) fun u4 => (fX11_looseOnes_l4 F M0 kx n) u4 (a2 + 1)))
def fX11_looseOnes (F : Nat) (M0 : sp_Mem) : Option Int32 :=
  fX11_looseOnes_l4 F M0 (fun b6 => some b6) F 0 0
set_option maxRecDepth 100000 in
set_option maxHeartbeats 4000000 in
theorem tX11_looseOnes_l4 {g : sp_G} {Ω : sp_Mem → Prop} {Q : sp_Qt} {F : Nat} {M0 : sp_Mem} {p : Int32} (hG : sp_Ok Ω)  {kx : Int32 → Option Int32} (hQ : Q (some (.int p)) M0) (hx : ∀ (a1 : Int32), kx a1 = some p → sp_Wp g Ω mX11_looseOnes 0 0 38 [none, some (.int a1), none] [] M0 Q) : ∀ (n : Nat) (a1 : Int32) (a2 : Int32), fX11_looseOnes_l4 F M0 kx n a1 a2 = some p → sp_Wp g Ω mX11_looseOnes 0 0 4 [some (.ref 103), some (.int a1), some (.int a2)] [] M0 Q := by
  intro n
  induction n with
  | zero =>
    intro a1 a2 h
    rw [fX11_looseOnes_l4] at h
    cases h
  | succ n ih =>
    intro a1 a2 h
    rw [fX11_looseOnes_l4] at h
    refine sp_iload_n dX11_looseOnes_4 rfl rfl ?_
    refine sp_aload_n dX11_looseOnes_5 rfl rfl ?_
    refine sp_use (fun ho => ?_)
    have hs := hG.1 _ ho
    refine sp_getR (RX11, TX11, 56) dX11_looseOnes_6 clX11 (j := 3) (by decide) tw_1218 (wsI_103 hs) (Or.inr ⟨_, rfl⟩) (wsP_103_3 hs) ?_
    refine sp_iconst (v := 0) dX11_looseOnes_9 (by decide) ?_
    refine sp_iald2 (j := 0) dX11_looseOnes_10 (wsA_105 hs) (wsN_105 hs) rfl ?_
    refine sp_icmp_ge (tgt := 38) dX11_looseOnes_11 (by decide) (fun hc1 => ?_) (fun hc1 => ?_)
    · have h := (if_pos hc1).symm.trans h
      refine sp_weak [false, true, false] [none, some (.int a1), none] rfl ?_
      exact hx _ h
    · have h := (if_neg hc1).symm.trans h
      refine sp_iload_n dX11_looseOnes_14 rfl rfl ?_
      refine sp_aload_n dX11_looseOnes_15 rfl rfl ?_
      refine sp_iload_n dX11_looseOnes_16 rfl rfl ?_
      obtain ⟨v2, hv2, h⟩ := Option.bind_eq_some_iff.mp h
      refine sp_cV (M1 := M0) (r := some (.int v2)) (o := 103) (st := [.int a1]) (c := 10) (RX11, TX11, 56) [.int a2] [.int a2, .ref 103, .int a1] [.int v2, .int a1] dX11_looseOnes_17 okX11_isLoose tw_1428 tw_1430 tw_31 (by decide) (by decide) rfl (Nat.le_of_ble_eq_true rfl) rfl rfl rfl rfl (wsI_103 hs) (fun Q hQ => tX11_isLoose hG hv2 hQ) ?_
      refine sp_if_eq (tgt := 29) dX11_looseOnes_20 (by decide) (fun hc3 => ?_) (fun hc3 => ?_)
      · have h := (if_pos hc3).symm.trans h
        refine sp_iconst (v := 0) dX11_looseOnes_29 (by decide) ?_
        refine sp_ior dX11_looseOnes_30 ?_
        refine sp_istore_n [some (.ref 103), some (.int (a1 ||| 0)), some (.int a2)] dX11_looseOnes_31 rfl (by decide) rfl ?_
        refine sp_iinc (v := (a2 + 1)) [some (.ref 103), some (.int (a1 ||| 0)), some (.int (a2 + 1))] dX11_looseOnes_32 rfl rfl (by decide) rfl ?_
        refine sp_goto (tgt := 4) dX11_looseOnes_35 (by decide) ?_
        refine sp_weak [true, true, true] [some (.ref 103), some (.int (a1 ||| 0)), some (.int (a2 + 1))] rfl ?_
        exact ih _ _ h
      · have h := (if_neg hc3).symm.trans h
        refine sp_iconst (v := 1) dX11_looseOnes_23 (by decide) ?_
        refine sp_iload_n dX11_looseOnes_24 rfl rfl ?_
        refine sp_ishl dX11_looseOnes_25 ?_
        refine sp_goto (tgt := 30) dX11_looseOnes_26 (by decide) ?_
        refine sp_ior dX11_looseOnes_30 ?_
        obtain ⟨u4, hu4, h⟩ := sp_do_e h
        refine sp_topi hu4 ?_
        refine sp_istore_n [some (.ref 103), some (.int u4), some (.int a2)] dX11_looseOnes_31 rfl (by decide) rfl ?_
        refine sp_iinc (v := (a2 + 1)) [some (.ref 103), some (.int u4), some (.int (a2 + 1))] dX11_looseOnes_32 rfl rfl (by decide) rfl ?_
        refine sp_goto (tgt := 4) dX11_looseOnes_35 (by decide) ?_
        refine sp_weak [true, true, true] [some (.ref 103), some (.int u4), some (.int (a2 + 1))] rfl ?_
        exact ih _ _ h
set_option maxRecDepth 100000 in
set_option maxHeartbeats 4000000 in
theorem tX11_looseOnes {g : sp_G} {Ω : sp_Mem → Prop} {Q : sp_Qt} {F : Nat} {M0 : sp_Mem} {p : Int32} (hG : sp_Ok Ω) (h : fX11_looseOnes F M0 = some p) (hQ : Q (some (.int p)) M0) : sp_Mt g Ω mX11_looseOnes 0 0 [.ref 103] M0 Q := by
  unfold fX11_looseOnes at h
  refine sp_Mt.of [some (.ref 103), none, none] (by decide) (by simp [sp_ent, Value.category]) rfl ?_
  refine sp_iconst (v := 0) dX11_looseOnes_0 (by decide) ?_
  refine sp_istore_n [some (.ref 103), some (.int 0), none] dX11_looseOnes_1 rfl (by decide) rfl ?_
  refine sp_iconst (v := 0) dX11_looseOnes_2 (by decide) ?_
  refine sp_istore_n [some (.ref 103), some (.int 0), some (.int 0)] dX11_looseOnes_3 rfl (by decide) rfl ?_
  refine sp_weak [true, true, true] [some (.ref 103), some (.int 0), some (.int 0)] rfl ?_
  refine tX11_looseOnes_l4 hG hQ (fun b6 h => ?_) F _ _ h
  refine sp_iload_n dX11_looseOnes_38 rfl rfl ?_
  cases h
  exact sp_iret dX11_looseOnes_39 (ty := .int) rfl rfl (fun _ => hQ)
def fX11_knownTo_l4 (F : Nat) (M0 : sp_Mem) (kx : Int32 → Option Int32) : Nat → Int32 → Int32 → Int32 → Option Int32
  | 0, _, _, _ => none
  | n + 1, a1, a2, a3 =>
  if (sp_I M0 105 1) ≤ a3 then (kx a2) else ((sp_ix 5480 (62 + a3)).bind fun j2 => if (fX11_is (sp_I M0 105 j2) a1) = 0 then ((fX11_knownTo_l4 F M0 kx n) a1 (a2 ||| 0) (a3 + 1)) else (sp_do ((a2 ||| (1 <<< (a3 &&& 31)))) fun u4 => (fX11_knownTo_l4 F M0 kx n) a1 u4 (a3 + 1)))
def fX11_knownTo (F : Nat) (M0 : sp_Mem) (a1 : Int32) : Option Int32 :=
  fX11_knownTo_l4 F M0 (fun b6 => some b6) F a1 0 0
set_option maxRecDepth 100000 in
set_option maxHeartbeats 4000000 in
theorem tX11_knownTo_l4 {g : sp_G} {Ω : sp_Mem → Prop} {Q : sp_Qt} {F : Nat} {M0 : sp_Mem} {p : Int32} (hG : sp_Ok Ω)  {kx : Int32 → Option Int32} (hQ : Q (some (.int p)) M0) (hx : ∀ (a2 : Int32), kx a2 = some p → sp_Wp g Ω mX11_knownTo 0 0 46 [none, none, some (.int a2), none] [] M0 Q) : ∀ (n : Nat) (a1 : Int32) (a2 : Int32) (a3 : Int32), fX11_knownTo_l4 F M0 kx n a1 a2 a3 = some p → sp_Wp g Ω mX11_knownTo 0 0 4 [some (.ref 103), some (.int a1), some (.int a2), some (.int a3)] [] M0 Q := by
  intro n
  induction n with
  | zero =>
    intro a1 a2 a3 h
    rw [fX11_knownTo_l4] at h
    cases h
  | succ n ih =>
    intro a1 a2 a3 h
    rw [fX11_knownTo_l4] at h
    refine sp_iload_n dX11_knownTo_4 rfl rfl ?_
    refine sp_aload_n dX11_knownTo_5 rfl rfl ?_
    refine sp_use (fun ho => ?_)
    have hs := hG.1 _ ho
    refine sp_getR (RX11, TX11, 56) dX11_knownTo_6 clX11 (j := 3) (by decide) tw_1218 (wsI_103 hs) (Or.inr ⟨_, rfl⟩) (wsP_103_3 hs) ?_
    refine sp_iconst (v := 1) dX11_knownTo_9 (by decide) ?_
    refine sp_iald2 (j := 1) dX11_knownTo_10 (wsA_105 hs) (wsN_105 hs) rfl ?_
    refine sp_icmp_ge (tgt := 46) dX11_knownTo_11 (by decide) (fun hc1 => ?_) (fun hc1 => ?_)
    · have h := (if_pos hc1).symm.trans h
      refine sp_weak [false, false, true, false] [none, none, some (.int a2), none] rfl ?_
      exact hx _ h
    · have h := (if_neg hc1).symm.trans h
      refine sp_iload_n dX11_knownTo_14 rfl rfl ?_
      refine sp_aload_n dX11_knownTo_15 rfl rfl ?_
      refine sp_getR (RX11, TX11, 56) dX11_knownTo_16 clX11 (j := 3) (by decide) tw_1218 (wsI_103 hs) (Or.inr ⟨_, rfl⟩) (wsP_103_3 hs) ?_
      refine sp_bipush (v := 62) dX11_knownTo_19 (by decide) ?_
      refine sp_iload_n dX11_knownTo_21 rfl rfl ?_
      refine sp_iadd dX11_knownTo_22 ?_
      obtain ⟨j2, hj2, h⟩ := Option.bind_eq_some_iff.mp h
      refine sp_iald2 (j := j2) dX11_knownTo_23 (wsA_105 hs) (wsN_105 hs) hj2 ?_
      refine sp_iload_n dX11_knownTo_24 rfl rfl ?_
      refine sp_cS (M1 := M0) (r := some (.int (fX11_is (sp_I M0 105 j2) a1))) (st := [.int a2]) [.int (sp_I M0 105 j2), .int a1] [.int a1, .int (sp_I M0 105 j2), .int a2] [.int (fX11_is (sp_I M0 105 j2) a1), .int a2] dX11_knownTo_25 okX11_is tw_1470 tw_1471 (by decide) (by decide) rfl (Nat.le_of_ble_eq_true rfl) rfl rfl (fun Q hQ => tX11_is hG rfl hQ) ?_
      refine sp_if_eq (tgt := 37) dX11_knownTo_28 (by decide) (fun hc3 => ?_) (fun hc3 => ?_)
      · have h := (if_pos hc3).symm.trans h
        refine sp_iconst (v := 0) dX11_knownTo_37 (by decide) ?_
        refine sp_ior dX11_knownTo_38 ?_
        refine sp_istore_n [some (.ref 103), some (.int a1), some (.int (a2 ||| 0)), some (.int a3)] dX11_knownTo_39 rfl (by decide) rfl ?_
        refine sp_iinc (v := (a3 + 1)) [some (.ref 103), some (.int a1), some (.int (a2 ||| 0)), some (.int (a3 + 1))] dX11_knownTo_40 rfl rfl (by decide) rfl ?_
        refine sp_goto (tgt := 4) dX11_knownTo_43 (by decide) ?_
        refine sp_weak [true, true, true, true] [some (.ref 103), some (.int a1), some (.int (a2 ||| 0)), some (.int (a3 + 1))] rfl ?_
        exact ih _ _ _ h
      · have h := (if_neg hc3).symm.trans h
        refine sp_iconst (v := 1) dX11_knownTo_31 (by decide) ?_
        refine sp_iload_n dX11_knownTo_32 rfl rfl ?_
        refine sp_ishl dX11_knownTo_33 ?_
        refine sp_goto (tgt := 38) dX11_knownTo_34 (by decide) ?_
        refine sp_ior dX11_knownTo_38 ?_
        obtain ⟨u4, hu4, h⟩ := sp_do_e h
        refine sp_topi hu4 ?_
        refine sp_istore_n [some (.ref 103), some (.int a1), some (.int u4), some (.int a3)] dX11_knownTo_39 rfl (by decide) rfl ?_
        refine sp_iinc (v := (a3 + 1)) [some (.ref 103), some (.int a1), some (.int u4), some (.int (a3 + 1))] dX11_knownTo_40 rfl rfl (by decide) rfl ?_
        refine sp_goto (tgt := 4) dX11_knownTo_43 (by decide) ?_
        refine sp_weak [true, true, true, true] [some (.ref 103), some (.int a1), some (.int u4), some (.int (a3 + 1))] rfl ?_
        exact ih _ _ _ h
set_option maxRecDepth 100000 in
set_option maxHeartbeats 4000000 in
theorem tX11_knownTo {g : sp_G} {Ω : sp_Mem → Prop} {Q : sp_Qt} {F : Nat} {M0 : sp_Mem} {p : Int32} (hG : sp_Ok Ω) {a1 : Int32} (h : fX11_knownTo F M0 a1 = some p) (hQ : Q (some (.int p)) M0) : sp_Mt g Ω mX11_knownTo 0 0 [.ref 103, .int a1] M0 Q := by
  unfold fX11_knownTo at h
  refine sp_Mt.of [some (.ref 103), some (.int a1), none, none] (by decide) (by simp [sp_ent, Value.category]) rfl ?_
  refine sp_iconst (v := 0) dX11_knownTo_0 (by decide) ?_
  refine sp_istore_n [some (.ref 103), some (.int a1), some (.int 0), none] dX11_knownTo_1 rfl (by decide) rfl ?_
  refine sp_iconst (v := 0) dX11_knownTo_2 (by decide) ?_
  refine sp_istore_n [some (.ref 103), some (.int a1), some (.int 0), some (.int 0)] dX11_knownTo_3 rfl (by decide) rfl ?_
  refine sp_weak [true, true, true, true] [some (.ref 103), some (.int a1), some (.int 0), some (.int 0)] rfl ?_
  refine tX11_knownTo_l4 hG hQ (fun b6 h => ?_) F _ _ _ h
  refine sp_iload_n dX11_knownTo_46 rfl rfl ?_
  cases h
  exact sp_iret dX11_knownTo_47 (ty := .int) rfl rfl (fun _ => hQ)
def fX11_spark (M : sp_Mem) (a1 : Int32) (a2 : Int32) (a3 : Int32) : Option (Int32 × sp_Mem) :=
  sp_do (sp_setI M 103 0 0) fun M1 => if (fX11_isCell a1) = 0 then ((fX11_tell M1 (-1)).bind fun x3 => some (x3.1, x3.2)) else (if (fX11_in (Int32.toInt64 a2) 1 9) = 0 then ((fX11_tell M1 (-1)).bind fun x5 => some (x5.1, x5.2)) else (if (fX11_in (Int32.toInt64 a3) 0 99) = 0 then ((fX11_tell M1 (-1)).bind fun x21 => some (x21.1, x21.2)) else ((sp_ix 5480 (26 + a1)).bind fun j7 => if (sp_I M1 105 j7) = 3 then ((fX11_tell M1 (-3)).bind fun x20 => some (x20.1, x20.2)) else (sp_do ((sp_I M1 105 0)) fun u9 => if u9 = 6 then ((fX11_tell M1 (-5)).bind fun x19 => some (x19.1, x19.2)) else ((sp_ix 5480 (9 + u9)).bind fun j11 => sp_do (sp_setI M1 105 j11 a1) fun M12 => (sp_ix 5480 (15 + u9)).bind fun j13 => sp_do (sp_setI M12 105 j13 a2) fun M14 => (sp_ix 5480 (51 + u9)).bind fun j15 => sp_do (sp_setI M14 105 j15 a3) fun M16 => sp_do (sp_setI M16 105 0 ((sp_I M16 105 0) + 1)) fun M17 => (fX11_settled M17 u9).bind fun x18 => some (x18.1, x18.2))))))
set_option maxRecDepth 100000 in
set_option maxHeartbeats 4000000 in
theorem tX11_spark {g : sp_G} {Ω : sp_Mem → Prop} {Q : sp_Qt} {p : (Int32 × sp_Mem)} (hG : sp_Ok Ω) {M : sp_Mem} {a1 : Int32} {a2 : Int32} {a3 : Int32} (h : fX11_spark M a1 a2 a3 = some p) (hQ : Q (some (.int p.1)) p.2) : sp_Mt g Ω mX11_spark 0 0 [.ref 103, .int a1, .int a2, .int a3] M Q := by
  unfold fX11_spark at h
  refine sp_Mt.of [some (.ref 103), some (.int a1), some (.int a2), some (.int a3), none] (by decide) (by simp [sp_ent, Value.category]) rfl ?_
  refine sp_aload_n dX11_spark_0 rfl rfl ?_
  refine sp_iconst (v := 0) dX11_spark_1 (by decide) ?_
  refine sp_use (fun ho => ?_)
  have hs := hG.1 _ ho
  obtain ⟨M1, hM1, h⟩ := sp_do_e h
  refine sp_putI2 (RX11, TX11, 56) hG dX11_spark_2 clX11 (j := 0) (by decide) tw_1215 rfl (Or.inl rfl) (wsI_103 hs) hM1 ?_
  refine sp_iload_n dX11_spark_5 rfl rfl ?_
  refine sp_use (fun ho => ?_)
  have hs := hG.1 _ ho
  refine sp_cS (M1 := M1) (r := some (.int (fX11_isCell a1))) (st := []) [.int a1] [.int a1] [.int (fX11_isCell a1)] dX11_spark_6 okX11_isCell tw_1415 tw_1416 (by decide) (by decide) rfl (Nat.le_of_ble_eq_true rfl) rfl rfl (fun Q hQ => tX11_isCell hG rfl hQ) ?_
  refine sp_if_eq (tgt := 36) dX11_spark_9 (by decide) (fun hc2 => ?_) (fun hc2 => ?_)
  · have h := (if_pos hc2).symm.trans h
    refine sp_aload_n dX11_spark_36 rfl rfl ?_
    refine sp_iconst (v := (-1)) dX11_spark_37 (by decide) ?_
    obtain ⟨x3, hx3, h⟩ := Option.bind_eq_some_iff.mp h
    refine sp_cV (M1 := x3.2) (r := some (.int x3.1)) (o := 103) (st := []) (c := 10) (RX11, TX11, 56) [.int (-1)] [.int (-1), .ref 103] [.int x3.1] dX11_spark_38 okX11_tell tw_1388 tw_1390 tw_27 (by decide) (by decide) rfl (Nat.le_of_ble_eq_true rfl) rfl rfl rfl rfl (wsI_103 hs) (fun Q hQ => tX11_tell hG hx3 hQ) ?_
    cases h
    exact sp_iret dX11_spark_41 (ty := .int) rfl rfl (fun _ => hQ)
  · have h := (if_neg hc2).symm.trans h
    refine sp_iload_n dX11_spark_12 rfl rfl ?_
    refine sp_i2l dX11_spark_13 ?_
    refine sp_lconst (v := 1) dX11_spark_14 (by decide) ?_
    refine sp_ldc2 (v := 9) dX11_spark_15 tw_1418 ?_
    refine sp_cS (M1 := M1) (r := some (.int (fX11_in (Int32.toInt64 a2) 1 9))) (st := []) [.long (Int32.toInt64 a2), .long 1, .long 9] [.long 9, .long 1, .long (Int32.toInt64 a2)] [.int (fX11_in (Int32.toInt64 a2) 1 9)] dX11_spark_18 okX11_in tw_1400 tw_1401 (by decide) (by decide) rfl (Nat.le_of_ble_eq_true rfl) rfl rfl (fun Q hQ => tX11_in hG rfl hQ) ?_
    refine sp_if_eq (tgt := 36) dX11_spark_21 (by decide) (fun hc4 => ?_) (fun hc4 => ?_)
    · have h := (if_pos hc4).symm.trans h
      refine sp_aload_n dX11_spark_36 rfl rfl ?_
      refine sp_iconst (v := (-1)) dX11_spark_37 (by decide) ?_
      obtain ⟨x5, hx5, h⟩ := Option.bind_eq_some_iff.mp h
      refine sp_cV (M1 := x5.2) (r := some (.int x5.1)) (o := 103) (st := []) (c := 10) (RX11, TX11, 56) [.int (-1)] [.int (-1), .ref 103] [.int x5.1] dX11_spark_38 okX11_tell tw_1388 tw_1390 tw_27 (by decide) (by decide) rfl (Nat.le_of_ble_eq_true rfl) rfl rfl rfl rfl (wsI_103 hs) (fun Q hQ => tX11_tell hG hx5 hQ) ?_
      cases h
      exact sp_iret dX11_spark_41 (ty := .int) rfl rfl (fun _ => hQ)
    · have h := (if_neg hc4).symm.trans h
      refine sp_iload_n dX11_spark_24 rfl rfl ?_
      refine sp_i2l dX11_spark_25 ?_
      refine sp_lconst (v := 0) dX11_spark_26 (by decide) ?_
      refine sp_ldc2 (v := 99) dX11_spark_27 tw_1419 ?_
      refine sp_cS (M1 := M1) (r := some (.int (fX11_in (Int32.toInt64 a3) 0 99))) (st := []) [.long (Int32.toInt64 a3), .long 0, .long 99] [.long 99, .long 0, .long (Int32.toInt64 a3)] [.int (fX11_in (Int32.toInt64 a3) 0 99)] dX11_spark_30 okX11_in tw_1400 tw_1401 (by decide) (by decide) rfl (Nat.le_of_ble_eq_true rfl) rfl rfl (fun Q hQ => tX11_in hG rfl hQ) ?_
      refine sp_if_ne (tgt := 42) dX11_spark_33 (by decide) (fun hc6 => ?_) (fun hc6 => ?_)
      · have h := (if_neg hc6).symm.trans h
        refine sp_aload_n dX11_spark_42 rfl rfl ?_
        refine sp_getR (RX11, TX11, 56) dX11_spark_43 clX11 (j := 3) (by decide) tw_1218 (wsI_103 hs) (Or.inr ⟨_, rfl⟩) (wsP_103_3 hs) ?_
        refine sp_bipush (v := 26) dX11_spark_46 (by decide) ?_
        refine sp_iload_n dX11_spark_48 rfl rfl ?_
        refine sp_iadd dX11_spark_49 ?_
        obtain ⟨j7, hj7, h⟩ := Option.bind_eq_some_iff.mp h
        refine sp_iald2 (j := j7) dX11_spark_50 (wsA_105 hs) (wsN_105 hs) hj7 ?_
        refine sp_iconst (v := 3) dX11_spark_51 (by decide) ?_
        refine sp_icmp_ne (tgt := 62) dX11_spark_52 (by decide) (fun hc8 => ?_) (fun hc8 => ?_)
        · have h := (if_neg hc8).symm.trans h
          refine sp_aload_n dX11_spark_62 rfl rfl ?_
          refine sp_getR (RX11, TX11, 56) dX11_spark_63 clX11 (j := 3) (by decide) tw_1218 (wsI_103 hs) (Or.inr ⟨_, rfl⟩) (wsP_103_3 hs) ?_
          refine sp_iconst (v := 0) dX11_spark_66 (by decide) ?_
          refine sp_iald2 (j := 0) dX11_spark_67 (wsA_105 hs) (wsN_105 hs) rfl ?_
          obtain ⟨u9, hu9, h⟩ := sp_do_e h
          refine sp_topi hu9 ?_
          refine sp_istore [some (.ref 103), some (.int a1), some (.int a2), some (.int a3), some (.int u9)] dX11_spark_68 (by decide) rfl ?_
          refine sp_iload dX11_spark_70 rfl ?_
          refine sp_bipush (v := 6) dX11_spark_72 (by decide) ?_
          refine sp_icmp_ne (tgt := 84) dX11_spark_74 (by decide) (fun hc10 => ?_) (fun hc10 => ?_)
          · have h := (if_neg hc10).symm.trans h
            refine sp_aload_n dX11_spark_84 rfl rfl ?_
            refine sp_getR (RX11, TX11, 56) dX11_spark_85 clX11 (j := 3) (by decide) tw_1218 (wsI_103 hs) (Or.inr ⟨_, rfl⟩) (wsP_103_3 hs) ?_
            refine sp_bipush (v := 9) dX11_spark_88 (by decide) ?_
            refine sp_iload dX11_spark_90 rfl ?_
            refine sp_iadd dX11_spark_92 ?_
            refine sp_iload_n dX11_spark_93 rfl rfl ?_
            obtain ⟨j11, hj11, h⟩ := Option.bind_eq_some_iff.mp h
            obtain ⟨M12, hM12, h⟩ := sp_do_e h
            refine sp_iast2 (j := j11) hG dX11_spark_94 (wsA_105 hs) (wsN_105 hs) hj11 hM12 ?_
            refine sp_aload_n dX11_spark_95 rfl rfl ?_
            refine sp_use (fun ho => ?_)
            have hs := hG.1 _ ho
            refine sp_getR (RX11, TX11, 56) dX11_spark_96 clX11 (j := 3) (by decide) tw_1218 (wsI_103 hs) (Or.inr ⟨_, rfl⟩) (wsP_103_3 hs) ?_
            refine sp_bipush (v := 15) dX11_spark_99 (by decide) ?_
            refine sp_iload dX11_spark_101 rfl ?_
            refine sp_iadd dX11_spark_103 ?_
            refine sp_iload_n dX11_spark_104 rfl rfl ?_
            obtain ⟨j13, hj13, h⟩ := Option.bind_eq_some_iff.mp h
            obtain ⟨M14, hM14, h⟩ := sp_do_e h
            refine sp_iast2 (j := j13) hG dX11_spark_105 (wsA_105 hs) (wsN_105 hs) hj13 hM14 ?_
            refine sp_aload_n dX11_spark_106 rfl rfl ?_
            refine sp_use (fun ho => ?_)
            have hs := hG.1 _ ho
            refine sp_getR (RX11, TX11, 56) dX11_spark_107 clX11 (j := 3) (by decide) tw_1218 (wsI_103 hs) (Or.inr ⟨_, rfl⟩) (wsP_103_3 hs) ?_
            refine sp_bipush (v := 51) dX11_spark_110 (by decide) ?_
            refine sp_iload dX11_spark_112 rfl ?_
            refine sp_iadd dX11_spark_114 ?_
            refine sp_iload_n dX11_spark_115 rfl rfl ?_
            obtain ⟨j15, hj15, h⟩ := Option.bind_eq_some_iff.mp h
            obtain ⟨M16, hM16, h⟩ := sp_do_e h
            refine sp_iast2 (j := j15) hG dX11_spark_116 (wsA_105 hs) (wsN_105 hs) hj15 hM16 ?_
            refine sp_aload_n dX11_spark_117 rfl rfl ?_
            refine sp_use (fun ho => ?_)
            have hs := hG.1 _ ho
            refine sp_getR (RX11, TX11, 56) dX11_spark_118 clX11 (j := 3) (by decide) tw_1218 (wsI_103 hs) (Or.inr ⟨_, rfl⟩) (wsP_103_3 hs) ?_
            refine sp_iconst (v := 0) dX11_spark_121 (by decide) ?_
            refine sp_dup2 dX11_spark_122 rfl rfl ?_
            refine sp_iald2 (j := 0) dX11_spark_123 (wsA_105 hs) (wsN_105 hs) rfl ?_
            refine sp_iconst (v := 1) dX11_spark_124 (by decide) ?_
            refine sp_iadd dX11_spark_125 ?_
            obtain ⟨M17, hM17, h⟩ := sp_do_e h
            refine sp_iast2 (j := 0) hG dX11_spark_126 (wsA_105 hs) (wsN_105 hs) rfl hM17 ?_
            refine sp_aload_n dX11_spark_127 rfl rfl ?_
            refine sp_iload dX11_spark_128 rfl ?_
            refine sp_use (fun ho => ?_)
            have hs := hG.1 _ ho
            obtain ⟨x18, hx18, h⟩ := Option.bind_eq_some_iff.mp h
            refine sp_cV (M1 := x18.2) (r := some (.int x18.1)) (o := 103) (st := []) (c := 10) (RX11, TX11, 56) [.int u9] [.int u9, .ref 103] [.int x18.1] dX11_spark_130 okX11_settled tw_1407 tw_1409 tw_29 (by decide) (by decide) rfl (Nat.le_of_ble_eq_true rfl) rfl rfl rfl rfl (wsI_103 hs) (fun Q hQ => tX11_settled hG hx18 hQ) ?_
            cases h
            exact sp_iret dX11_spark_133 (ty := .int) rfl rfl (fun _ => hQ)
          · have h := (if_pos hc10).symm.trans h
            refine sp_aload_n dX11_spark_77 rfl rfl ?_
            refine sp_bipush (v := (-5)) dX11_spark_78 (by decide) ?_
            obtain ⟨x19, hx19, h⟩ := Option.bind_eq_some_iff.mp h
            refine sp_cV (M1 := x19.2) (r := some (.int x19.1)) (o := 103) (st := []) (c := 10) (RX11, TX11, 56) [.int (-5)] [.int (-5), .ref 103] [.int x19.1] dX11_spark_80 okX11_tell tw_1388 tw_1390 tw_27 (by decide) (by decide) rfl (Nat.le_of_ble_eq_true rfl) rfl rfl rfl rfl (wsI_103 hs) (fun Q hQ => tX11_tell hG hx19 hQ) ?_
            cases h
            exact sp_iret dX11_spark_83 (ty := .int) rfl rfl (fun _ => hQ)
        · have h := (if_pos hc8).symm.trans h
          refine sp_aload_n dX11_spark_55 rfl rfl ?_
          refine sp_bipush (v := (-3)) dX11_spark_56 (by decide) ?_
          obtain ⟨x20, hx20, h⟩ := Option.bind_eq_some_iff.mp h
          refine sp_cV (M1 := x20.2) (r := some (.int x20.1)) (o := 103) (st := []) (c := 10) (RX11, TX11, 56) [.int (-3)] [.int (-3), .ref 103] [.int x20.1] dX11_spark_58 okX11_tell tw_1388 tw_1390 tw_27 (by decide) (by decide) rfl (Nat.le_of_ble_eq_true rfl) rfl rfl rfl rfl (wsI_103 hs) (fun Q hQ => tX11_tell hG hx20 hQ) ?_
          cases h
          exact sp_iret dX11_spark_61 (ty := .int) rfl rfl (fun _ => hQ)
      · have h := (if_pos hc6).symm.trans h
        refine sp_aload_n dX11_spark_36 rfl rfl ?_
        refine sp_iconst (v := (-1)) dX11_spark_37 (by decide) ?_
        obtain ⟨x21, hx21, h⟩ := Option.bind_eq_some_iff.mp h
        refine sp_cV (M1 := x21.2) (r := some (.int x21.1)) (o := 103) (st := []) (c := 10) (RX11, TX11, 56) [.int (-1)] [.int (-1), .ref 103] [.int x21.1] dX11_spark_38 okX11_tell tw_1388 tw_1390 tw_27 (by decide) (by decide) rfl (Nat.le_of_ble_eq_true rfl) rfl rfl rfl rfl (wsI_103 hs) (fun Q hQ => tX11_tell hG hx21 hQ) ?_
        cases h
        exact sp_iret dX11_spark_41 (ty := .int) rfl rfl (fun _ => hQ)
def fX11_reckon_j72 (a2 : Int64) (a4 : Int64) (s0 : Int32) (M : sp_Mem) : Option (Int64 × sp_Mem) :=
  sp_do (sp_setI M 103 38 s0) fun M6 => (sp_b01 s0).bind fun _ => if (sp_I M6 103 38) = 0 then (if a4 = 0 then none else some ((a2 / a4), M6)) else (some (0, M6))
def fX11_reckon_j104 (a2 : Int64) (a4 : Int64) (s0 : Int32) (M : sp_Mem) : Option (Int64 × sp_Mem) :=
  sp_do (sp_setI M 103 38 s0) fun M12 => (sp_b01 s0).bind fun _ => if (sp_I M12 103 38) = 0 then (if a4 = 0 then none else some ((a2 - a2 / a4 * a4), M12)) else (some (0, M12))
def fX11_reckon (M : sp_Mem) (a1 : Int32) (a2 : Int64) (a4 : Int64) : Option (Int64 × sp_Mem) :=
  if a1 = 20 then (some ((a2 + a4), M)) else if a1 = 21 then (some ((a2 - a4), M)) else if a1 = 22 then (some ((a2 * a4), M)) else if a1 = 23 then (fX11_reckon_j72 a2 a4 (if a4 = 0 then 1 else 0) M) else if a1 = 24 then (fX11_reckon_j104 a2 a4 (if a4 = 0 then 1 else 0) M) else if a1 = 25 then (if a4 ≤ a2 then (some (0, M)) else (some (1, M))) else if a1 = 26 then (if a2 ≤ a4 then (some (0, M)) else (some (1, M))) else (if a2 = a4 then (some (1, M)) else (some (0, M)))
set_option maxRecDepth 100000 in
set_option maxHeartbeats 4000000 in
theorem tX11_reckon_j72 {g : sp_G} {Ω : sp_Mem → Prop} {Q : sp_Qt} {p : (Int64 × sp_Mem)} (hG : sp_Ok Ω)  (hQ : Q (some (.long p.1)) p.2) (a2 : Int64) (a4 : Int64) (s0 : Int32) (M : sp_Mem) (h : fX11_reckon_j72 a2 a4 s0 M = some p) : sp_Wp g Ω mX11_reckon 0 0 72 [some (.ref 103), none, some (.long a2), none, some (.long a4), none] [.int s0, .ref 103] M Q := by
  unfold fX11_reckon_j72 at h
  refine sp_use (fun ho => ?_)
  have hs := hG.1 _ ho
  obtain ⟨M6, hM6, h⟩ := sp_do_e h
  obtain ⟨_, hz7, h⟩ := Option.bind_eq_some_iff.mp h
  refine sp_putI2 (RX11, TX11, 56) hG dX11_reckon_72 clX11 (j := 38) (by decide) tw_1253 rfl (Or.inr ⟨rfl, (sp_b01_e hz7)⟩) (wsI_103 hs) hM6 ?_
  refine sp_aload_n dX11_reckon_75 rfl rfl ?_
  refine sp_use (fun ho => ?_)
  have hs := hG.1 _ ho
  refine sp_getI (RX11, TX11, 56) dX11_reckon_76 clX11 (j := 38) (by decide) tw_1253 (wsI_103 hs) (Or.inr rfl) ?_
  refine sp_if_eq (tgt := 86) dX11_reckon_79 (by decide) (fun hc8 => ?_) (fun hc8 => ?_)
  · have h := (if_pos hc8).symm.trans h
    refine sp_lload_n dX11_reckon_86 rfl rfl ?_
    refine sp_lload dX11_reckon_87 rfl ?_
    by_cases hz9 : a4 = 0
    · rw [if_pos hz9] at h; cases h
    have h := (if_neg hz9).symm.trans h
    refine sp_ldiv dX11_reckon_89 hz9 ?_
    cases h
    exact sp_lret dX11_reckon_90 rfl (fun _ => hQ)
  · have h := (if_neg hc8).symm.trans h
    refine sp_lconst (v := 0) dX11_reckon_82 (by decide) ?_
    refine sp_goto (tgt := 90) dX11_reckon_83 (by decide) ?_
    cases h
    exact sp_lret dX11_reckon_90 rfl (fun _ => hQ)
set_option maxRecDepth 100000 in
set_option maxHeartbeats 4000000 in
theorem tX11_reckon_j104 {g : sp_G} {Ω : sp_Mem → Prop} {Q : sp_Qt} {p : (Int64 × sp_Mem)} (hG : sp_Ok Ω)  (hQ : Q (some (.long p.1)) p.2) (a2 : Int64) (a4 : Int64) (s0 : Int32) (M : sp_Mem) (h : fX11_reckon_j104 a2 a4 s0 M = some p) : sp_Wp g Ω mX11_reckon 0 0 104 [some (.ref 103), none, some (.long a2), none, some (.long a4), none] [.int s0, .ref 103] M Q := by
  unfold fX11_reckon_j104 at h
  refine sp_use (fun ho => ?_)
  have hs := hG.1 _ ho
  obtain ⟨M12, hM12, h⟩ := sp_do_e h
  obtain ⟨_, hz13, h⟩ := Option.bind_eq_some_iff.mp h
  refine sp_putI2 (RX11, TX11, 56) hG dX11_reckon_104 clX11 (j := 38) (by decide) tw_1253 rfl (Or.inr ⟨rfl, (sp_b01_e hz13)⟩) (wsI_103 hs) hM12 ?_
  refine sp_aload_n dX11_reckon_107 rfl rfl ?_
  refine sp_use (fun ho => ?_)
  have hs := hG.1 _ ho
  refine sp_getI (RX11, TX11, 56) dX11_reckon_108 clX11 (j := 38) (by decide) tw_1253 (wsI_103 hs) (Or.inr rfl) ?_
  refine sp_if_eq (tgt := 118) dX11_reckon_111 (by decide) (fun hc14 => ?_) (fun hc14 => ?_)
  · have h := (if_pos hc14).symm.trans h
    refine sp_lload_n dX11_reckon_118 rfl rfl ?_
    refine sp_lload dX11_reckon_119 rfl ?_
    by_cases hz15 : a4 = 0
    · rw [if_pos hz15] at h; cases h
    have h := (if_neg hz15).symm.trans h
    refine sp_lrem dX11_reckon_121 hz15 ?_
    cases h
    exact sp_lret dX11_reckon_122 rfl (fun _ => hQ)
  · have h := (if_neg hc14).symm.trans h
    refine sp_lconst (v := 0) dX11_reckon_114 (by decide) ?_
    refine sp_goto (tgt := 122) dX11_reckon_115 (by decide) ?_
    cases h
    exact sp_lret dX11_reckon_122 rfl (fun _ => hQ)
set_option maxRecDepth 100000 in
set_option maxHeartbeats 4000000 in
theorem tX11_reckon {g : sp_G} {Ω : sp_Mem → Prop} {Q : sp_Qt} {p : (Int64 × sp_Mem)} (hG : sp_Ok Ω) {M : sp_Mem} {a1 : Int32} {a2 : Int64} {a4 : Int64} (h : fX11_reckon M a1 a2 a4 = some p) (hQ : Q (some (.long p.1)) p.2) : sp_Mt g Ω mX11_reckon 0 0 [.ref 103, .int a1, .long a2, .long a4] M Q := by
  unfold fX11_reckon at h
  refine sp_Mt.of [some (.ref 103), some (.int a1), some (.long a2), none, some (.long a4), none] (by decide) (by simp [sp_ent, Value.category]) rfl ?_
  refine sp_iload_n dX11_reckon_0 rfl rfl ?_
  by_cases hc1 : a1 = 20
  · have h := (if_pos hc1).symm.trans h
    refine sp_tswI (tgt := 44) dX11_reckon_1 (by rw [hc1]; decide) (by rw [hc1]; decide) (by rw [hc1]; rfl) (by decide) ?_
    refine sp_lload_n dX11_reckon_44 rfl rfl ?_
    refine sp_lload dX11_reckon_45 rfl ?_
    refine sp_ladd dX11_reckon_47 ?_
    cases h
    exact sp_lret dX11_reckon_48 rfl (fun _ => hQ)
  have h := (if_neg hc1).symm.trans h
  by_cases hc2 : a1 = 21
  · have h := (if_pos hc2).symm.trans h
    refine sp_tswI (tgt := 49) dX11_reckon_1 (by rw [hc2]; decide) (by rw [hc2]; decide) (by rw [hc2]; rfl) (by decide) ?_
    refine sp_lload_n dX11_reckon_49 rfl rfl ?_
    refine sp_lload dX11_reckon_50 rfl ?_
    refine sp_lsub dX11_reckon_52 ?_
    cases h
    exact sp_lret dX11_reckon_53 rfl (fun _ => hQ)
  have h := (if_neg hc2).symm.trans h
  by_cases hc3 : a1 = 22
  · have h := (if_pos hc3).symm.trans h
    refine sp_tswI (tgt := 54) dX11_reckon_1 (by rw [hc3]; decide) (by rw [hc3]; decide) (by rw [hc3]; rfl) (by decide) ?_
    refine sp_lload_n dX11_reckon_54 rfl rfl ?_
    refine sp_lload dX11_reckon_55 rfl ?_
    refine sp_lmul dX11_reckon_57 ?_
    cases h
    exact sp_lret dX11_reckon_58 rfl (fun _ => hQ)
  have h := (if_neg hc3).symm.trans h
  by_cases hc4 : a1 = 23
  · have h := (if_pos hc4).symm.trans h
    refine sp_tswI (tgt := 59) dX11_reckon_1 (by rw [hc4]; decide) (by rw [hc4]; decide) (by rw [hc4]; rfl) (by decide) ?_
    refine sp_aload_n dX11_reckon_59 rfl rfl ?_
    refine sp_lload dX11_reckon_60 rfl ?_
    refine sp_lconst (v := 0) dX11_reckon_62 (by decide) ?_
    refine sp_lcmp dX11_reckon_63 ?_
    suffices hj : sp_Wp g Ω mX11_reckon 0 0 72 [some (.ref 103), none, some (.long a2), none, some (.long a4), none] [.int (if a4 = 0 then 1 else 0), .ref 103] M Q by
      refine sp_lif_ne (tgt := 71) dX11_reckon_64 (by decide) (fun hc5 => ?_) (fun hc5 => ?_)
      · refine sp_iconst (v := 0) dX11_reckon_71 (by decide) ?_
        refine sp_weak [true, false, true, false, true, false] [some (.ref 103), none, some (.long a2), none, some (.long a4), none] rfl ?_
        simp only [if_neg hc5] at hj
        exact hj
      · refine sp_iconst (v := 1) dX11_reckon_67 (by decide) ?_
        refine sp_goto (tgt := 72) dX11_reckon_68 (by decide) ?_
        refine sp_weak [true, false, true, false, true, false] [some (.ref 103), none, some (.long a2), none, some (.long a4), none] rfl ?_
        simp only [if_pos hc5] at hj
        exact hj
    refine sp_weak [true, false, true, false, true, false] [some (.ref 103), none, some (.long a2), none, some (.long a4), none] rfl ?_
    exact tX11_reckon_j72 hG hQ _ _ _ _ h
  have h := (if_neg hc4).symm.trans h
  by_cases hc10 : a1 = 24
  · have h := (if_pos hc10).symm.trans h
    refine sp_tswI (tgt := 91) dX11_reckon_1 (by rw [hc10]; decide) (by rw [hc10]; decide) (by rw [hc10]; rfl) (by decide) ?_
    refine sp_aload_n dX11_reckon_91 rfl rfl ?_
    refine sp_lload dX11_reckon_92 rfl ?_
    refine sp_lconst (v := 0) dX11_reckon_94 (by decide) ?_
    refine sp_lcmp dX11_reckon_95 ?_
    suffices hj : sp_Wp g Ω mX11_reckon 0 0 104 [some (.ref 103), none, some (.long a2), none, some (.long a4), none] [.int (if a4 = 0 then 1 else 0), .ref 103] M Q by
      refine sp_lif_ne (tgt := 103) dX11_reckon_96 (by decide) (fun hc11 => ?_) (fun hc11 => ?_)
      · refine sp_iconst (v := 0) dX11_reckon_103 (by decide) ?_
        refine sp_weak [true, false, true, false, true, false] [some (.ref 103), none, some (.long a2), none, some (.long a4), none] rfl ?_
        simp only [if_neg hc11] at hj
        exact hj
      · refine sp_iconst (v := 1) dX11_reckon_99 (by decide) ?_
        refine sp_goto (tgt := 104) dX11_reckon_100 (by decide) ?_
        refine sp_weak [true, false, true, false, true, false] [some (.ref 103), none, some (.long a2), none, some (.long a4), none] rfl ?_
        simp only [if_pos hc11] at hj
        exact hj
    refine sp_weak [true, false, true, false, true, false] [some (.ref 103), none, some (.long a2), none, some (.long a4), none] rfl ?_
    exact tX11_reckon_j104 hG hQ _ _ _ _ h
  have h := (if_neg hc10).symm.trans h
  by_cases hc16 : a1 = 25
  · have h := (if_pos hc16).symm.trans h
    refine sp_tswI (tgt := 123) dX11_reckon_1 (by rw [hc16]; decide) (by rw [hc16]; decide) (by rw [hc16]; rfl) (by decide) ?_
    refine sp_lload_n dX11_reckon_123 rfl rfl ?_
    refine sp_lload dX11_reckon_124 rfl ?_
    refine sp_lcmp dX11_reckon_126 ?_
    refine sp_lif_ge (tgt := 134) dX11_reckon_127 (by decide) (fun hc17 => ?_) (fun hc17 => ?_)
    · have h := (if_pos hc17).symm.trans h
      refine sp_lconst (v := 0) dX11_reckon_134 (by decide) ?_
      cases h
      exact sp_lret dX11_reckon_135 rfl (fun _ => hQ)
    · have h := (if_neg hc17).symm.trans h
      refine sp_lconst (v := 1) dX11_reckon_130 (by decide) ?_
      refine sp_goto (tgt := 135) dX11_reckon_131 (by decide) ?_
      cases h
      exact sp_lret dX11_reckon_135 rfl (fun _ => hQ)
  have h := (if_neg hc16).symm.trans h
  by_cases hc18 : a1 = 26
  · have h := (if_pos hc18).symm.trans h
    refine sp_tswI (tgt := 136) dX11_reckon_1 (by rw [hc18]; decide) (by rw [hc18]; decide) (by rw [hc18]; rfl) (by decide) ?_
    refine sp_lload_n dX11_reckon_136 rfl rfl ?_
    refine sp_lload dX11_reckon_137 rfl ?_
    refine sp_lcmp dX11_reckon_139 ?_
    refine sp_lif_le (tgt := 147) dX11_reckon_140 (by decide) (fun hc19 => ?_) (fun hc19 => ?_)
    · have h := (if_pos hc19).symm.trans h
      refine sp_lconst (v := 0) dX11_reckon_147 (by decide) ?_
      cases h
      exact sp_lret dX11_reckon_148 rfl (fun _ => hQ)
    · have h := (if_neg hc19).symm.trans h
      refine sp_lconst (v := 1) dX11_reckon_143 (by decide) ?_
      refine sp_goto (tgt := 148) dX11_reckon_144 (by decide) ?_
      cases h
      exact sp_lret dX11_reckon_148 rfl (fun _ => hQ)
  have h := (if_neg hc18).symm.trans h
  have hc1 := sp_ne hc1 (show (20 : Int32).toInt = 20 by decide)
  have hc2 := sp_ne hc2 (show (21 : Int32).toInt = 21 by decide)
  have hc3 := sp_ne hc3 (show (22 : Int32).toInt = 22 by decide)
  have hc4 := sp_ne hc4 (show (23 : Int32).toInt = 23 by decide)
  have hc10 := sp_ne hc10 (show (24 : Int32).toInt = 24 by decide)
  have hc16 := sp_ne hc16 (show (25 : Int32).toInt = 25 by decide)
  have hc18 := sp_ne hc18 (show (26 : Int32).toInt = 26 by decide)
  refine sp_tswO (tgt := 149) dX11_reckon_1 (by omega) (by decide) ?_
  refine sp_lload_n dX11_reckon_149 rfl rfl ?_
  refine sp_lload dX11_reckon_150 rfl ?_
  refine sp_lcmp dX11_reckon_152 ?_
  refine sp_lif_ne (tgt := 160) dX11_reckon_153 (by decide) (fun hc20 => ?_) (fun hc20 => ?_)
  · have h := (if_neg hc20).symm.trans h
    refine sp_lconst (v := 0) dX11_reckon_160 (by decide) ?_
    cases h
    exact sp_lret dX11_reckon_161 rfl (fun _ => hQ)
  · have h := (if_pos hc20).symm.trans h
    refine sp_lconst (v := 1) dX11_reckon_156 (by decide) ?_
    refine sp_goto (tgt := 161) dX11_reckon_157 (by decide) ?_
    cases h
    exact sp_lret dX11_reckon_161 rfl (fun _ => hQ)
