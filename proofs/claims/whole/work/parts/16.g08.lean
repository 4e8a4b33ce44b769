def fX11_status (M : sp_Mem) : Option (Int32 × sp_Mem) :=
  sp_do (sp_setI M 103 0 0) fun M1 => some ((sp_I M1 103 1), M1)
set_option maxRecDepth 100000 in
set_option maxHeartbeats 4000000 in
theorem tX11_status {g : sp_G} {Ω : sp_Mem → Prop} {Q : sp_Qt} {p : (Int32 × sp_Mem)} (hG : sp_Ok Ω) {M : sp_Mem} (h : fX11_status M = some p) (hQ : Q (some (.int p.1)) p.2) : sp_Mt g Ω mX11_status 0 0 [.ref 103] M Q := by
  unfold fX11_status at h
  refine sp_Mt.of [some (.ref 103)] (by decide) (by simp [sp_ent, Value.category]) rfl ?_
  refine sp_aload_n dX11_status_0 rfl rfl ?_
  refine sp_iconst (v := 0) dX11_status_1 (by decide) ?_
  refine sp_use (fun ho => ?_)
  have hs := hG.1 _ ho
  obtain ⟨M1, hM1, h⟩ := sp_do_e h
  refine sp_putI2 (RX11, TX11, 56) hG dX11_status_2 clX11 (j := 0) (by decide) tw_1215 rfl (Or.inl rfl) (wsI_103 hs) hM1 ?_
  refine sp_aload_n dX11_status_5 rfl rfl ?_
  refine sp_use (fun ho => ?_)
  have hs := hG.1 _ ho
  refine sp_getI (RX11, TX11, 56) dX11_status_6 clX11 (j := 1) (by decide) tw_1216 (wsI_103 hs) (Or.inl rfl) ?_
  cases h
  exact sp_iret dX11_status_9 (ty := .int) rfl rfl (fun _ => hQ)
def fX0_joined (a0 : Int32) (a1 : Int64) (a3 : Int64) : Option Int64 :=
  if a0 = 3 then (some (a1 + a3)) else if a0 = 4 then (some (a1 - a3)) else if a0 = 5 then (some (a1 * a3)) else if a0 = 6 then (if a3 = 0 then (some (-2000000000)) else (if a3 = 0 then none else some (a1 / a3))) else if a0 = 7 then (if a3 = 0 then (some (-2000000000)) else (if a3 = 0 then none else some (a1 - a1 / a3 * a3))) else if a0 = 8 then (if a3 ≤ a1 then (some 0) else (some 1)) else if a0 = 9 then (if a1 ≤ a3 then (some 0) else (some 1)) else if a0 = 10 then (if a1 = a3 then (some 1) else (some 0)) else (some (-2000000000))
set_option maxRecDepth 100000 in
set_option maxHeartbeats 4000000 in
theorem tX0_joined {g : sp_G} {Ω : sp_Mem → Prop} {Q : sp_Qt} {M0 : sp_Mem} {p : Int64} (hG : sp_Ok Ω) {a0 : Int32} {a1 : Int64} {a3 : Int64} (h : fX0_joined a0 a1 a3 = some p) (hQ : Q (some (.long p)) M0) : sp_Mt g Ω mX0_joined 0 0 [.int a0, .long a1, .long a3] M0 Q := by
  unfold fX0_joined at h
  refine sp_Mt.of [some (.int a0), some (.long a1), none, some (.long a3), none] (by decide) (by simp [sp_ent, Value.category]) rfl ?_
  refine sp_iload_n dX0_joined_0 rfl rfl ?_
  by_cases hc1 : a0 = 3
  · have h := (if_pos hc1).symm.trans h
    refine sp_tswI (tgt := 48) dX0_joined_1 (by rw [hc1]; decide) (by rw [hc1]; decide) (by rw [hc1]; rfl) (by decide) ?_
    refine sp_lload_n dX0_joined_48 rfl rfl ?_
    refine sp_lload_n dX0_joined_49 rfl rfl ?_
    refine sp_ladd dX0_joined_50 ?_
    cases h
    exact sp_lret dX0_joined_51 rfl (fun _ => hQ)
  have h := (if_neg hc1).symm.trans h
  by_cases hc2 : a0 = 4
  · have h := (if_pos hc2).symm.trans h
    refine sp_tswI (tgt := 52) dX0_joined_1 (by rw [hc2]; decide) (by rw [hc2]; decide) (by rw [hc2]; rfl) (by decide) ?_
    refine sp_lload_n dX0_joined_52 rfl rfl ?_
    refine sp_lload_n dX0_joined_53 rfl rfl ?_
    refine sp_lsub dX0_joined_54 ?_
    cases h
    exact sp_lret dX0_joined_55 rfl (fun _ => hQ)
  have h := (if_neg hc2).symm.trans h
  by_cases hc3 : a0 = 5
  · have h := (if_pos hc3).symm.trans h
    refine sp_tswI (tgt := 56) dX0_joined_1 (by rw [hc3]; decide) (by rw [hc3]; decide) (by rw [hc3]; rfl) (by decide) ?_
    refine sp_lload_n dX0_joined_56 rfl rfl ?_
    refine sp_lload_n dX0_joined_57 rfl rfl ?_
    refine sp_lmul dX0_joined_58 ?_
    cases h
    exact sp_lret dX0_joined_59 rfl (fun _ => hQ)
  have h := (if_neg hc3).symm.trans h
  by_cases hc4 : a0 = 6
  · have h := (if_pos hc4).symm.trans h
    refine sp_tswI (tgt := 60) dX0_joined_1 (by rw [hc4]; decide) (by rw [hc4]; decide) (by rw [hc4]; rfl) (by decide) ?_
    refine sp_lload_n dX0_joined_60 rfl rfl ?_
    refine sp_lconst (v := 0) dX0_joined_61 (by decide) ?_
    refine sp_lcmp dX0_joined_62 ?_
    refine sp_lif_ne (tgt := 72) dX0_joined_63 (by decide) (fun hc5 => ?_) (fun hc5 => ?_)
    · have h := (if_neg hc5).symm.trans h
      refine sp_lload_n dX0_joined_72 rfl rfl ?_
      refine sp_lload_n dX0_joined_73 rfl rfl ?_
      by_cases hz6 : a3 = 0
      · rw [if_pos hz6] at h; cases h
      have h := (if_neg hz6).symm.trans h
      refine sp_ldiv dX0_joined_74 hz6 ?_
      cases h
      exact sp_lret dX0_joined_75 rfl (fun _ => hQ)
    · have h := (if_pos hc5).symm.trans h
      refine sp_ldc2 (v := (-2000000000)) dX0_joined_66 tw_539 ?_
      refine sp_goto (tgt := 75) dX0_joined_69 (by decide) ?_
      cases h
      exact sp_lret dX0_joined_75 rfl (fun _ => hQ)
  have h := (if_neg hc4).symm.trans h
  by_cases hc7 : a0 = 7
  · have h := (if_pos hc7).symm.trans h
    refine sp_tswI (tgt := 76) dX0_joined_1 (by rw [hc7]; decide) (by rw [hc7]; decide) (by rw [hc7]; rfl) (by decide) ?_
    refine sp_lload_n dX0_joined_76 rfl rfl ?_
    refine sp_lconst (v := 0) dX0_joined_77 (by decide) ?_
    refine sp_lcmp dX0_joined_78 ?_
    refine sp_lif_ne (tgt := 88) dX0_joined_79 (by decide) (fun hc8 => ?_) (fun hc8 => ?_)
    · have h := (if_neg hc8).symm.trans h
      refine sp_lload_n dX0_joined_88 rfl rfl ?_
      refine sp_lload_n dX0_joined_89 rfl rfl ?_
      by_cases hz9 : a3 = 0
      · rw [if_pos hz9] at h; cases h
      have h := (if_neg hz9).symm.trans h
      refine sp_lrem dX0_joined_90 hz9 ?_
      cases h
      exact sp_lret dX0_joined_91 rfl (fun _ => hQ)
    · have h := (if_pos hc8).symm.trans h
      refine sp_ldc2 (v := (-2000000000)) dX0_joined_82 tw_539 ?_
      refine sp_goto (tgt := 91) dX0_joined_85 (by decide) ?_
      cases h
      exact sp_lret dX0_joined_91 rfl (fun _ => hQ)
  have h := (if_neg hc7).symm.trans h
  by_cases hc10 : a0 = 8
  · have h := (if_pos hc10).symm.trans h
    refine sp_tswI (tgt := 92) dX0_joined_1 (by rw [hc10]; decide) (by rw [hc10]; decide) (by rw [hc10]; rfl) (by decide) ?_
    refine sp_lload_n dX0_joined_92 rfl rfl ?_
    refine sp_lload_n dX0_joined_93 rfl rfl ?_
    refine sp_lcmp dX0_joined_94 ?_
    refine sp_lif_ge (tgt := 102) dX0_joined_95 (by decide) (fun hc11 => ?_) (fun hc11 => ?_)
    · have h := (if_pos hc11).symm.trans h
      refine sp_lconst (v := 0) dX0_joined_102 (by decide) ?_
      cases h
      exact sp_lret dX0_joined_103 rfl (fun _ => hQ)
    · have h := (if_neg hc11).symm.trans h
      refine sp_lconst (v := 1) dX0_joined_98 (by decide) ?_
      refine sp_goto (tgt := 103) dX0_joined_99 (by decide) ?_
      cases h
      exact sp_lret dX0_joined_103 rfl (fun _ => hQ)
  have h := (if_neg hc10).symm.trans h
  by_cases hc12 : a0 = 9
  · have h := (if_pos hc12).symm.trans h
    refine sp_tswI (tgt := 104) dX0_joined_1 (by rw [hc12]; decide) (by rw [hc12]; decide) (by rw [hc12]; rfl) (by decide) ?_
    refine sp_lload_n dX0_joined_104 rfl rfl ?_
    refine sp_lload_n dX0_joined_105 rfl rfl ?_
    refine sp_lcmp dX0_joined_106 ?_
    refine sp_lif_le (tgt := 114) dX0_joined_107 (by decide) (fun hc13 => ?_) (fun hc13 => ?_)
    · have h := (if_pos hc13).symm.trans h
      refine sp_lconst (v := 0) dX0_joined_114 (by decide) ?_
      cases h
      exact sp_lret dX0_joined_115 rfl (fun _ => hQ)
    · have h := (if_neg hc13).symm.trans h
      refine sp_lconst (v := 1) dX0_joined_110 (by decide) ?_
      refine sp_goto (tgt := 115) dX0_joined_111 (by decide) ?_
      cases h
      exact sp_lret dX0_joined_115 rfl (fun _ => hQ)
  have h := (if_neg hc12).symm.trans h
  by_cases hc14 : a0 = 10
  · have h := (if_pos hc14).symm.trans h
    refine sp_tswI (tgt := 116) dX0_joined_1 (by rw [hc14]; decide) (by rw [hc14]; decide) (by rw [hc14]; rfl) (by decide) ?_
    refine sp_lload_n dX0_joined_116 rfl rfl ?_
    refine sp_lload_n dX0_joined_117 rfl rfl ?_
    refine sp_lcmp dX0_joined_118 ?_
    refine sp_lif_ne (tgt := 126) dX0_joined_119 (by decide) (fun hc15 => ?_) (fun hc15 => ?_)
    · have h := (if_neg hc15).symm.trans h
      refine sp_lconst (v := 0) dX0_joined_126 (by decide) ?_
      cases h
      exact sp_lret dX0_joined_127 rfl (fun _ => hQ)
    · have h := (if_pos hc15).symm.trans h
      refine sp_lconst (v := 1) dX0_joined_122 (by decide) ?_
      refine sp_goto (tgt := 127) dX0_joined_123 (by decide) ?_
      cases h
      exact sp_lret dX0_joined_127 rfl (fun _ => hQ)
  have h := (if_neg hc14).symm.trans h
  have hc1 := sp_ne hc1 (show (3 : Int32).toInt = 3 by decide)
  have hc2 := sp_ne hc2 (show (4 : Int32).toInt = 4 by decide)
  have hc3 := sp_ne hc3 (show (5 : Int32).toInt = 5 by decide)
  have hc4 := sp_ne hc4 (show (6 : Int32).toInt = 6 by decide)
  have hc7 := sp_ne hc7 (show (7 : Int32).toInt = 7 by decide)
  have hc10 := sp_ne hc10 (show (8 : Int32).toInt = 8 by decide)
  have hc12 := sp_ne hc12 (show (9 : Int32).toInt = 9 by decide)
  have hc14 := sp_ne hc14 (show (10 : Int32).toInt = 10 by decide)
  refine sp_tswO (tgt := 128) dX0_joined_1 (by omega) (by decide) ?_
  refine sp_ldc2 (v := (-2000000000)) dX0_joined_128 tw_539 ?_
  cases h
  exact sp_lret dX0_joined_131 rfl (fun _ => hQ)
def fX0_value_j95 (F : Nat) (o1 : Nat) (o3 : Nat) (kb : Int32 → Int32 → Int32 → sp_Mem → Option (Int32 × sp_Mem)) (kx : sp_Mem → Option (Int32 × sp_Mem)) (a4 : Int32) (a5 : Int32) (a6 : Int32) (a7 : Int32) (a8 : Int32) (M : sp_Mem) : Option (Int32 × sp_Mem) :=
  if a7 = 2 then ((sp_ix (sp_N M o3) a8).bind fun j14 => (sp_ix 52 a4).bind fun j15 => sp_do (sp_setI M 3 j15 (sp_I M o3 j14)) fun M16 => kb a4 a5 (a6 + 1) M16) else ((sp_ix 52 a4).bind fun j12 => sp_do (sp_setI M 3 j12 a8) fun M13 => kb a4 a5 (a6 + 1) M13)
def fX0_value_j66 (F : Nat) (o1 : Nat) (o3 : Nat) (kb : Int32 → Int32 → Int32 → sp_Mem → Option (Int32 × sp_Mem)) (kx : sp_Mem → Option (Int32 × sp_Mem)) (a4 : Int32) (a5 : Int32) (a6 : Int32) (a7 : Int32) (a8 : Int32) (M : sp_Mem) : Option (Int32 × sp_Mem) :=
  if 52 ≤ (a4 + 1) then (some ((-2000000000), M)) else (if a7 = 2 then (if a8 < (Int32.ofNat (sp_N M o3)) then (fX0_value_j95 F o1 o3 kb kx (a4 + 1) a5 a6 a7 a8 M) else (some ((-2000000000), M))) else (fX0_value_j95 F o1 o3 kb kx (a4 + 1) a5 a6 a7 a8 M))
def fX0_value_j130 (F : Nat) (o1 : Nat) (o3 : Nat) (kb : Int32 → Int32 → Int32 → sp_Mem → Option (Int32 × sp_Mem)) (kx : sp_Mem → Option (Int32 × sp_Mem)) (a4 : Int32) (M : sp_Mem) : Option (Int32 × sp_Mem) :=
  if 0 ≤ a4 then ((sp_ix 52 a4).bind fun j21 => some ((sp_I M 3 j21), M)) else (some ((-2000000000), M))
def fX0_value_j207 (F : Nat) (o1 : Nat) (o3 : Nat) (kb : Int32 → Int32 → Int32 → sp_Mem → Option (Int32 × sp_Mem)) (kx : sp_Mem → Option (Int32 × sp_Mem)) (a4 : Int32) (a5 : Int32) (a6 : Int32) (a8 : Int32) (s0 : Int32) (s1 : Int32) (M : sp_Mem) : Option (Int32 × sp_Mem) :=
  if s1 = s0 then (sp_do ((sp_max a6 (a8 - 1))) fun u28 => kb a4 a5 (u28 + 1) M) else (kb (a4 + (-1)) a5 (a6 + 1) M)
def fX0_value_j188 (F : Nat) (o1 : Nat) (o3 : Nat) (kb : Int32 → Int32 → Int32 → sp_Mem → Option (Int32 × sp_Mem)) (kx : sp_Mem → Option (Int32 × sp_Mem)) (a4 : Int32) (a5 : Int32) (a6 : Int32) (a7 : Int32) (a8 : Int32) (M : sp_Mem) : Option (Int32 × sp_Mem) :=
  (sp_ix 52 a4).bind fun j25 => fX0_value_j207 F o1 o3 kb kx a4 a5 a6 a8 (if a7 = 13 then 1 else 0) (sp_I M 3 j25) M
def fX0_value_j267 (F : Nat) (o1 : Nat) (o3 : Nat) (kb : Int32 → Int32 → Int32 → sp_Mem → Option (Int32 × sp_Mem)) (kx : sp_Mem → Option (Int32 × sp_Mem)) (a4 : Int32) (a5 : Int32) (a6 : Int32) (s0 : Int64) (M : sp_Mem) : Option (Int32 × sp_Mem) :=
  if s0 < (-1000000000) then (some ((-2000000000), M)) else (if s0 ≤ 1000000000 then ((sp_ix 52 a4).bind fun j36 => sp_do (sp_setI M 3 j36 (Int64.toInt32 s0)) fun M37 => kb a4 a5 (a6 + 1) M37) else (some ((-2000000000), M)))
def fX0_value_l24 (F : Nat) (o1 : Nat) (o3 : Nat) (kx : sp_Mem → Option (Int32 × sp_Mem)) : Nat → Int32 → Int32 → Int32 → sp_Mem → Option (Int32 × sp_Mem)
  | 0, _, _, _, _ => none
  | n + 1, a4, a5, a6, M =>
  if a5 ≤ a6 then (kx M) else ((sp_ix (sp_N M (o1 + 2)) a6).bind fun j4 => sp_do (((sp_I M (o1 + 2) j4) &&& 31)) fun u5 => (sp_ix (sp_N M (o1 + 2)) a6).bind fun j6 => sp_do (((sp_I M (o1 + 2) j6) >>> (5 &&& 31))) fun u7 => if u5 = 1 then (fX0_value_j66 F o1 o3 (fX0_value_l24 F o1 o3 kx n) kx a4 a5 a6 u5 u7 M) else (if u5 = 2 then (fX0_value_j66 F o1 o3 (fX0_value_l24 F o1 o3 kx n) kx a4 a5 a6 u5 u7 M) else (if a4 < 0 then (fX0_value_j130 F o1 o3 (fX0_value_l24 F o1 o3 kx n) kx a4 M) else (if u5 = 0 then (fX0_value_j130 F o1 o3 (fX0_value_l24 F o1 o3 kx n) kx a4 M) else (if u5 = 11 then ((sp_ix 52 a4).bind fun j38 => (sp_ix 52 a4).bind fun j39 => sp_do (sp_setI M 3 j39 (1 - (sp_I M 3 j38))) fun M40 => (fX0_value_l24 F o1 o3 kx n) a4 a5 (a6 + 1) M40) else (if u5 = 12 then (fX0_value_j188 F o1 o3 (fX0_value_l24 F o1 o3 kx n) kx a4 a5 a6 u5 u7 M) else (if u5 = 13 then (fX0_value_j188 F o1 o3 (fX0_value_l24 F o1 o3 kx n) kx a4 a5 a6 u5 u7 M) else (if 0 ≤ (a4 + (-1)) then ((sp_ix 52 (a4 + (-1))).bind fun j31 => (sp_ix 52 ((a4 + (-1)) + 1)).bind fun j32 => (fX0_joined u5 (Int32.toInt64 (sp_I M 3 j31)) (Int32.toInt64 (sp_I M 3 j32))).bind fun v33 => fX0_value_j267 F o1 o3 (fX0_value_l24 F o1 o3 kx n) kx (a4 + (-1)) a5 a6 v33 M) else (fX0_value_j267 F o1 o3 (fX0_value_l24 F o1 o3 kx n) kx (a4 + (-1)) a5 a6 (-2000000000) M)))))))))
def fX0_value (F : Nat) (M : sp_Mem) (o1 : Nat) (a2 : Int32) (o3 : Nat) : Option (Int32 × sp_Mem) :=
  sp_do ((sp_min (sp_I M o1 3) (Int32.ofNat (sp_N M (o1 + 2))))) fun u1 => sp_do ((sp_max 0 a2)) fun u2 => fX0_value_l24 F o1 o3 (fun M41 => some ((-2000000000), M41)) F (-1) u1 u2 M
set_option maxRecDepth 100000 in
set_option maxHeartbeats 4000000 in
theorem tX0_value_j95 {g : sp_G} {Ω : sp_Mem → Prop} {Q : sp_Qt} {F : Nat} {p : (Int32 × sp_Mem)} (hG : sp_Ok Ω) {o1 : Nat} (ho1 : ∀ M, Ω M → sp_text M o1) {o3 : Nat} (ho3 : sp_words o3)  {kb : Int32 → Int32 → Int32 → sp_Mem → Option (Int32 × sp_Mem)} {kx : sp_Mem → Option (Int32 × sp_Mem)} (hQ : Q (some (.int p.1)) p.2) (hb : ∀ (a4 : Int32) (a5 : Int32) (a6 : Int32) (M : sp_Mem), kb a4 a5 a6 M = some p → sp_Wp g Ω mX0_value 0 0 24 [some (.ref 2), some (.ref o1), none, some (.ref o3), some (.int a4), some (.int a5), some (.int a6), none, none, none, none] [] M Q) (hx : ∀  (M : sp_Mem), kx M = some p → sp_Wp g Ω mX0_value 0 0 306 [none, none, none, none, none, none, none, none, none, none, none] [] M Q) (a4 : Int32) (a5 : Int32) (a6 : Int32) (a7 : Int32) (a8 : Int32) (M : sp_Mem) (h : fX0_value_j95 F o1 o3 kb kx a4 a5 a6 a7 a8 M = some p) : sp_Wp g Ω mX0_value 0 0 95 [some (.ref 2), some (.ref o1), none, some (.ref o3), some (.int a4), some (.int a5), some (.int a6), some (.int a7), some (.int a8), none, none] [] M Q := by
  unfold fX0_value_j95 at h
  refine sp_aload_n dX0_value_95 rfl rfl ?_
  refine sp_use (fun ho => ?_)
  have hs := hG.1 _ ho
  refine sp_getR (RX0, TX0, 1) dX0_value_96 clX0 (j := 0) (by decide) tw_139 (wsI_2 hs) (Or.inr ⟨_, rfl⟩) (wsP_2_0 hs) ?_
  refine sp_iload dX0_value_99 rfl ?_
  refine sp_iload dX0_value_101 rfl ?_
  refine sp_iconst (v := 2) dX0_value_103 (by decide) ?_
  refine sp_icmp_ne (tgt := 114) dX0_value_104 (by decide) (fun hc11 => ?_) (fun hc11 => ?_)
  · have h := (if_neg hc11).symm.trans h
    refine sp_iload dX0_value_114 rfl ?_
    obtain ⟨j12, hj12, h⟩ := Option.bind_eq_some_iff.mp h
    obtain ⟨M13, hM13, h⟩ := sp_do_e h
    refine sp_iast2 (j := j12) hG dX0_value_116 (wsA_3 hs) (wsN_3 hs) hj12 hM13 ?_
    refine sp_goto (tgt := 300) dX0_value_117 (by decide) ?_
    refine sp_iinc (v := (a6 + 1)) [some (.ref 2), some (.ref o1), none, some (.ref o3), some (.int a4), some (.int a5), some (.int (a6 + 1)), some (.int a7), some (.int a8), none, none] dX0_value_300 rfl rfl (by decide) rfl ?_
    refine sp_goto (tgt := 24) dX0_value_303 (by decide) ?_
    refine sp_weak [true, true, false, true, true, true, true, false, false, false, false] [some (.ref 2), some (.ref o1), none, some (.ref o3), some (.int a4), some (.int a5), some (.int (a6 + 1)), none, none, none, none] rfl ?_
    exact hb _ _ _ _ h
  · have h := (if_pos hc11).symm.trans h
    refine sp_aload_n dX0_value_107 rfl rfl ?_
    refine sp_iload dX0_value_108 rfl ?_
    obtain ⟨j14, hj14, h⟩ := Option.bind_eq_some_iff.mp h
    refine sp_iald2 (j := j14) dX0_value_110 (wdA hs ho3) rfl hj14 ?_
    refine sp_goto (tgt := 116) dX0_value_111 (by decide) ?_
    obtain ⟨j15, hj15, h⟩ := Option.bind_eq_some_iff.mp h
    obtain ⟨M16, hM16, h⟩ := sp_do_e h
    refine sp_iast2 (j := j15) hG dX0_value_116 (wsA_3 hs) (wsN_3 hs) hj15 hM16 ?_
    refine sp_goto (tgt := 300) dX0_value_117 (by decide) ?_
    refine sp_iinc (v := (a6 + 1)) [some (.ref 2), some (.ref o1), none, some (.ref o3), some (.int a4), some (.int a5), some (.int (a6 + 1)), some (.int a7), some (.int a8), none, none] dX0_value_300 rfl rfl (by decide) rfl ?_
    refine sp_goto (tgt := 24) dX0_value_303 (by decide) ?_
    refine sp_weak [true, true, false, true, true, true, true, false, false, false, false] [some (.ref 2), some (.ref o1), none, some (.ref o3), some (.int a4), some (.int a5), some (.int (a6 + 1)), none, none, none, none] rfl ?_
    exact hb _ _ _ _ h
set_option maxRecDepth 100000 in
set_option maxHeartbeats 4000000 in
theorem tX0_value_j66 {g : sp_G} {Ω : sp_Mem → Prop} {Q : sp_Qt} {F : Nat} {p : (Int32 × sp_Mem)} (hG : sp_Ok Ω) {o1 : Nat} (ho1 : ∀ M, Ω M → sp_text M o1) {o3 : Nat} (ho3 : sp_words o3)  {kb : Int32 → Int32 → Int32 → sp_Mem → Option (Int32 × sp_Mem)} {kx : sp_Mem → Option (Int32 × sp_Mem)} (hQ : Q (some (.int p.1)) p.2) (hb : ∀ (a4 : Int32) (a5 : Int32) (a6 : Int32) (M : sp_Mem), kb a4 a5 a6 M = some p → sp_Wp g Ω mX0_value 0 0 24 [some (.ref 2), some (.ref o1), none, some (.ref o3), some (.int a4), some (.int a5), some (.int a6), none, none, none, none] [] M Q) (hx : ∀  (M : sp_Mem), kx M = some p → sp_Wp g Ω mX0_value 0 0 306 [none, none, none, none, none, none, none, none, none, none, none] [] M Q) (a4 : Int32) (a5 : Int32) (a6 : Int32) (a7 : Int32) (a8 : Int32) (M : sp_Mem) (h : fX0_value_j66 F o1 o3 kb kx a4 a5 a6 a7 a8 M = some p) : sp_Wp g Ω mX0_value 0 0 66 [some (.ref 2), some (.ref o1), none, some (.ref o3), some (.int a4), some (.int a5), some (.int a6), some (.int a7), some (.int a8), none, none] [] M Q := by
  unfold fX0_value_j66 at h
  refine sp_iinc (v := (a4 + 1)) [some (.ref 2), some (.ref o1), none, some (.ref o3), some (.int (a4 + 1)), some (.int a5), some (.int a6), some (.int a7), some (.int a8), none, none] dX0_value_66 rfl rfl (by decide) rfl ?_
  refine sp_iload dX0_value_69 rfl ?_
  refine sp_aload_n dX0_value_71 rfl rfl ?_
  refine sp_use (fun ho => ?_)
  have hs := hG.1 _ ho
  refine sp_getR (RX0, TX0, 1) dX0_value_72 clX0 (j := 0) (by decide) tw_139 (wsI_2 hs) (Or.inr ⟨_, rfl⟩) (wsP_2_0 hs) ?_
  refine sp_alen (v := 52) 0 (by decide) dX0_value_75 (wsA_3 hs) (by rw [(wsN_3 hs)]; decide) ?_
  refine sp_icmp_ge (tgt := 92) dX0_value_76 (by decide) (fun hc9 => ?_) (fun hc9 => ?_)
  · have h := (if_pos hc9).symm.trans h
    refine sp_ldc (v := (-2000000000)) dX0_value_92 tw_538 ?_
    cases h
    exact sp_iret dX0_value_94 (ty := .int) rfl rfl (fun _ => hQ)
  · have h := (if_neg hc9).symm.trans h
    refine sp_iload dX0_value_79 rfl ?_
    refine sp_iconst (v := 2) dX0_value_81 (by decide) ?_
    refine sp_icmp_ne (tgt := 95) dX0_value_82 (by decide) (fun hc10 => ?_) (fun hc10 => ?_)
    · have h := (if_neg hc10).symm.trans h
      refine sp_weak [true, true, false, true, true, true, true, true, true, false, false] [some (.ref 2), some (.ref o1), none, some (.ref o3), some (.int (a4 + 1)), some (.int a5), some (.int a6), some (.int a7), some (.int a8), none, none] rfl ?_
      exact tX0_value_j95 hG ho1 ho3 hQ hb hx _ _ _ _ _ _ h
    · have h := (if_pos hc10).symm.trans h
      refine sp_iload dX0_value_85 rfl ?_
      refine sp_aload_n dX0_value_87 rfl rfl ?_
      refine sp_alen 0 (by decide) dX0_value_88 (wdA hs ho3) rfl ?_
      refine sp_icmp_lt (tgt := 95) dX0_value_89 (by decide) (fun hc17 => ?_) (fun hc17 => ?_)
      · have h := (if_pos hc17).symm.trans h
        refine sp_weak [true, true, false, true, true, true, true, true, true, false, false] [some (.ref 2), some (.ref o1), none, some (.ref o3), some (.int (a4 + 1)), some (.int a5), some (.int a6), some (.int a7), some (.int a8), none, none] rfl ?_
        exact tX0_value_j95 hG ho1 ho3 hQ hb hx _ _ _ _ _ _ h
      · have h := (if_neg hc17).symm.trans h
        refine sp_ldc (v := (-2000000000)) dX0_value_92 tw_538 ?_
        cases h
        exact sp_iret dX0_value_94 (ty := .int) rfl rfl (fun _ => hQ)
set_option maxRecDepth 100000 in
set_option maxHeartbeats 4000000 in
theorem tX0_value_j130 {g : sp_G} {Ω : sp_Mem → Prop} {Q : sp_Qt} {F : Nat} {p : (Int32 × sp_Mem)} (hG : sp_Ok Ω) {o1 : Nat} (ho1 : ∀ M, Ω M → sp_text M o1) {o3 : Nat} (ho3 : sp_words o3)  {kb : Int32 → Int32 → Int32 → sp_Mem → Option (Int32 × sp_Mem)} {kx : sp_Mem → Option (Int32 × sp_Mem)} (hQ : Q (some (.int p.1)) p.2) (hb : ∀ (a4 : Int32) (a5 : Int32) (a6 : Int32) (M : sp_Mem), kb a4 a5 a6 M = some p → sp_Wp g Ω mX0_value 0 0 24 [some (.ref 2), some (.ref o1), none, some (.ref o3), some (.int a4), some (.int a5), some (.int a6), none, none, none, none] [] M Q) (hx : ∀  (M : sp_Mem), kx M = some p → sp_Wp g Ω mX0_value 0 0 306 [none, none, none, none, none, none, none, none, none, none, none] [] M Q) (a4 : Int32) (M : sp_Mem) (h : fX0_value_j130 F o1 o3 kb kx a4 M = some p) : sp_Wp g Ω mX0_value 0 0 130 [some (.ref 2), none, none, none, some (.int a4), none, none, none, none, none, none] [] M Q := by
  unfold fX0_value_j130 at h
  refine sp_iload dX0_value_130 rfl ?_
  refine sp_if_ge (tgt := 140) dX0_value_132 (by decide) (fun hc20 => ?_) (fun hc20 => ?_)
  · have h := (if_pos hc20).symm.trans h
    refine sp_aload_n dX0_value_140 rfl rfl ?_
    refine sp_use (fun ho => ?_)
    have hs := hG.1 _ ho
    refine sp_getR (RX0, TX0, 1) dX0_value_141 clX0 (j := 0) (by decide) tw_139 (wsI_2 hs) (Or.inr ⟨_, rfl⟩) (wsP_2_0 hs) ?_
    refine sp_iload dX0_value_144 rfl ?_
    obtain ⟨j21, hj21, h⟩ := Option.bind_eq_some_iff.mp h
    refine sp_iald2 (j := j21) dX0_value_146 (wsA_3 hs) (wsN_3 hs) hj21 ?_
    cases h
    exact sp_iret dX0_value_147 (ty := .int) rfl rfl (fun _ => hQ)
  · have h := (if_neg hc20).symm.trans h
    refine sp_ldc (v := (-2000000000)) dX0_value_135 tw_538 ?_
    refine sp_goto (tgt := 147) dX0_value_137 (by decide) ?_
    cases h
    exact sp_iret dX0_value_147 (ty := .int) rfl rfl (fun _ => hQ)
set_option maxRecDepth 100000 in
set_option maxHeartbeats 4000000 in
theorem tX0_value_j207 {g : sp_G} {Ω : sp_Mem → Prop} {Q : sp_Qt} {F : Nat} {p : (Int32 × sp_Mem)} (hG : sp_Ok Ω) {o1 : Nat} (ho1 : ∀ M, Ω M → sp_text M o1) {o3 : Nat} (ho3 : sp_words o3)  {kb : Int32 → Int32 → Int32 → sp_Mem → Option (Int32 × sp_Mem)} {kx : sp_Mem → Option (Int32 × sp_Mem)} (hQ : Q (some (.int p.1)) p.2) (hb : ∀ (a4 : Int32) (a5 : Int32) (a6 : Int32) (M : sp_Mem), kb a4 a5 a6 M = some p → sp_Wp g Ω mX0_value 0 0 24 [some (.ref 2), some (.ref o1), none, some (.ref o3), some (.int a4), some (.int a5), some (.int a6), none, none, none, none] [] M Q) (hx : ∀  (M : sp_Mem), kx M = some p → sp_Wp g Ω mX0_value 0 0 306 [none, none, none, none, none, none, none, none, none, none, none] [] M Q) (a4 : Int32) (a5 : Int32) (a6 : Int32) (a8 : Int32) (s0 : Int32) (s1 : Int32) (M : sp_Mem) (h : fX0_value_j207 F o1 o3 kb kx a4 a5 a6 a8 s0 s1 M = some p) : sp_Wp g Ω mX0_value 0 0 207 [some (.ref 2), some (.ref o1), none, some (.ref o3), some (.int a4), some (.int a5), some (.int a6), none, some (.int a8), none, none] [.int s0, .int s1] M Q := by
  unfold fX0_value_j207 at h
  refine sp_icmp_ne (tgt := 224) dX0_value_207 (by decide) (fun hc27 => ?_) (fun hc27 => ?_)
  · have h := (if_neg hc27).symm.trans h
    refine sp_iinc (v := (a4 + (-1))) [some (.ref 2), some (.ref o1), none, some (.ref o3), some (.int (a4 + (-1))), some (.int a5), some (.int a6), none, some (.int a8), none, none] dX0_value_224 rfl rfl (by decide) rfl ?_
    refine sp_goto (tgt := 300) dX0_value_227 (by decide) ?_
    refine sp_iinc (v := (a6 + 1)) [some (.ref 2), some (.ref o1), none, some (.ref o3), some (.int (a4 + (-1))), some (.int a5), some (.int (a6 + 1)), none, some (.int a8), none, none] dX0_value_300 rfl rfl (by decide) rfl ?_
    refine sp_goto (tgt := 24) dX0_value_303 (by decide) ?_
    refine sp_weak [true, true, false, true, true, true, true, false, false, false, false] [some (.ref 2), some (.ref o1), none, some (.ref o3), some (.int (a4 + (-1))), some (.int a5), some (.int (a6 + 1)), none, none, none, none] rfl ?_
    exact hb _ _ _ _ h
  · have h := (if_pos hc27).symm.trans h
    refine sp_iload dX0_value_210 rfl ?_
    refine sp_iload dX0_value_212 rfl ?_
    refine sp_iconst (v := 1) dX0_value_214 (by decide) ?_
    refine sp_isub dX0_value_215 ?_
    refine sp_mmax dX0_value_216 tw_535 (by decide) (Nat.le_of_ble_eq_true rfl) ?_
    obtain ⟨u28, hu28, h⟩ := sp_do_e h
    refine sp_topi hu28 ?_
    refine sp_istore [some (.ref 2), some (.ref o1), none, some (.ref o3), some (.int a4), some (.int a5), some (.int u28), none, some (.int a8), none, none] dX0_value_219 (by decide) rfl ?_
    refine sp_goto (tgt := 300) dX0_value_221 (by decide) ?_
    refine sp_iinc (v := (u28 + 1)) [some (.ref 2), some (.ref o1), none, some (.ref o3), some (.int a4), some (.int a5), some (.int (u28 + 1)), none, some (.int a8), none, none] dX0_value_300 rfl rfl (by decide) rfl ?_
    refine sp_goto (tgt := 24) dX0_value_303 (by decide) ?_
    refine sp_weak [true, true, false, true, true, true, true, false, false, false, false] [some (.ref 2), some (.ref o1), none, some (.ref o3), some (.int a4), some (.int a5), some (.int (u28 + 1)), none, none, none, none] rfl ?_
    exact hb _ _ _ _ h
set_option maxRecDepth 100000 in
set_option maxHeartbeats 4000000 in
theorem tX0_value_j188 {g : sp_G} {Ω : sp_Mem → Prop} {Q : sp_Qt} {F : Nat} {p : (Int32 × sp_Mem)} (hG : sp_Ok Ω) {o1 : Nat} (ho1 : ∀ M, Ω M → sp_text M o1) {o3 : Nat} (ho3 : sp_words o3)  {kb : Int32 → Int32 → Int32 → sp_Mem → Option (Int32 × sp_Mem)} {kx : sp_Mem → Option (Int32 × sp_Mem)} (hQ : Q (some (.int p.1)) p.2) (hb : ∀ (a4 : Int32) (a5 : Int32) (a6 : Int32) (M : sp_Mem), kb a4 a5 a6 M = some p → sp_Wp g Ω mX0_value 0 0 24 [some (.ref 2), some (.ref o1), none, some (.ref o3), some (.int a4), some (.int a5), some (.int a6), none, none, none, none] [] M Q) (hx : ∀  (M : sp_Mem), kx M = some p → sp_Wp g Ω mX0_value 0 0 306 [none, none, none, none, none, none, none, none, none, none, none] [] M Q) (a4 : Int32) (a5 : Int32) (a6 : Int32) (a7 : Int32) (a8 : Int32) (M : sp_Mem) (h : fX0_value_j188 F o1 o3 kb kx a4 a5 a6 a7 a8 M = some p) : sp_Wp g Ω mX0_value 0 0 188 [some (.ref 2), some (.ref o1), none, some (.ref o3), some (.int a4), some (.int a5), some (.int a6), some (.int a7), some (.int a8), none, none] [] M Q := by
  unfold fX0_value_j188 at h
  refine sp_aload_n dX0_value_188 rfl rfl ?_
  refine sp_use (fun ho => ?_)
  have hs := hG.1 _ ho
  refine sp_getR (RX0, TX0, 1) dX0_value_189 clX0 (j := 0) (by decide) tw_139 (wsI_2 hs) (Or.inr ⟨_, rfl⟩) (wsP_2_0 hs) ?_
  refine sp_iload dX0_value_192 rfl ?_
  obtain ⟨j25, hj25, h⟩ := Option.bind_eq_some_iff.mp h
  refine sp_iald2 (j := j25) dX0_value_194 (wsA_3 hs) (wsN_3 hs) hj25 ?_
  refine sp_iload dX0_value_195 rfl ?_
  refine sp_bipush (v := 13) dX0_value_197 (by decide) ?_
  suffices hj : sp_Wp g Ω mX0_value 0 0 207 [some (.ref 2), some (.ref o1), none, some (.ref o3), some (.int a4), some (.int a5), some (.int a6), none, some (.int a8), none, none] [.int (if a7 = 13 then 1 else 0), .int (sp_I M 3 j25)] M Q by
    refine sp_icmp_ne (tgt := 206) dX0_value_199 (by decide) (fun hc26 => ?_) (fun hc26 => ?_)
    · refine sp_iconst (v := 0) dX0_value_206 (by decide) ?_
      refine sp_weak [true, true, false, true, true, true, true, false, true, false, false] [some (.ref 2), some (.ref o1), none, some (.ref o3), some (.int a4), some (.int a5), some (.int a6), none, some (.int a8), none, none] rfl ?_
      simp only [if_neg hc26] at hj
      exact hj
    · refine sp_iconst (v := 1) dX0_value_202 (by decide) ?_
      refine sp_goto (tgt := 207) dX0_value_203 (by decide) ?_
      refine sp_weak [true, true, false, true, true, true, true, false, true, false, false] [some (.ref 2), some (.ref o1), none, some (.ref o3), some (.int a4), some (.int a5), some (.int a6), none, some (.int a8), none, none] rfl ?_
      simp only [if_pos hc26] at hj
      exact hj
  refine sp_weak [true, true, false, true, true, true, true, false, true, false, false] [some (.ref 2), some (.ref o1), none, some (.ref o3), some (.int a4), some (.int a5), some (.int a6), none, some (.int a8), none, none] rfl ?_
  exact tX0_value_j207 hG ho1 ho3 hQ hb hx _ _ _ _ _ _ _ h
set_option maxRecDepth 100000 in
set_option maxHeartbeats 4000000 in
theorem tX0_value_j267 {g : sp_G} {Ω : sp_Mem → Prop} {Q : sp_Qt} {F : Nat} {p : (Int32 × sp_Mem)} (hG : sp_Ok Ω) {o1 : Nat} (ho1 : ∀ M, Ω M → sp_text M o1) {o3 : Nat} (ho3 : sp_words o3)  {kb : Int32 → Int32 → Int32 → sp_Mem → Option (Int32 × sp_Mem)} {kx : sp_Mem → Option (Int32 × sp_Mem)} (hQ : Q (some (.int p.1)) p.2) (hb : ∀ (a4 : Int32) (a5 : Int32) (a6 : Int32) (M : sp_Mem), kb a4 a5 a6 M = some p → sp_Wp g Ω mX0_value 0 0 24 [some (.ref 2), some (.ref o1), none, some (.ref o3), some (.int a4), some (.int a5), some (.int a6), none, none, none, none] [] M Q) (hx : ∀  (M : sp_Mem), kx M = some p → sp_Wp g Ω mX0_value 0 0 306 [none, none, none, none, none, none, none, none, none, none, none] [] M Q) (a4 : Int32) (a5 : Int32) (a6 : Int32) (s0 : Int64) (M : sp_Mem) (h : fX0_value_j267 F o1 o3 kb kx a4 a5 a6 s0 M = some p) : sp_Wp g Ω mX0_value 0 0 267 [some (.ref 2), some (.ref o1), none, some (.ref o3), some (.int a4), some (.int a5), some (.int a6), none, none, none, none] [.long s0] M Q := by
  unfold fX0_value_j267 at h
  refine sp_lstore [some (.ref 2), some (.ref o1), none, some (.ref o3), some (.int a4), some (.int a5), some (.int a6), none, none, some (.long s0), none] dX0_value_267 (by decide) rfl ?_
  refine sp_lload dX0_value_269 rfl ?_
  refine sp_ldc2 (v := (-1000000000)) dX0_value_271 tw_543 ?_
  refine sp_lcmp dX0_value_274 ?_
  refine sp_lif_lt (tgt := 287) dX0_value_275 (by decide) (fun hc34 => ?_) (fun hc34 => ?_)
  · have h := (if_pos hc34).symm.trans h
    refine sp_ldc (v := (-2000000000)) dX0_value_287 tw_538 ?_
    cases h
    exact sp_iret dX0_value_289 (ty := .int) rfl rfl (fun _ => hQ)
  · have h := (if_neg hc34).symm.trans h
    refine sp_lload dX0_value_278 rfl ?_
    refine sp_ldc2 (v := 1000000000) dX0_value_280 tw_544 ?_
    refine sp_lcmp dX0_value_283 ?_
    refine sp_lif_le (tgt := 290) dX0_value_284 (by decide) (fun hc35 => ?_) (fun hc35 => ?_)
    · have h := (if_pos hc35).symm.trans h
      refine sp_aload_n dX0_value_290 rfl rfl ?_
      refine sp_use (fun ho => ?_)
      have hs := hG.1 _ ho
      refine sp_getR (RX0, TX0, 1) dX0_value_291 clX0 (j := 0) (by decide) tw_139 (wsI_2 hs) (Or.inr ⟨_, rfl⟩) (wsP_2_0 hs) ?_
      refine sp_iload dX0_value_294 rfl ?_
      refine sp_lload dX0_value_296 rfl ?_
      refine sp_l2i dX0_value_298 ?_
      obtain ⟨j36, hj36, h⟩ := Option.bind_eq_some_iff.mp h
      obtain ⟨M37, hM37, h⟩ := sp_do_e h
      refine sp_iast2 (j := j36) hG dX0_value_299 (wsA_3 hs) (wsN_3 hs) hj36 hM37 ?_
      refine sp_iinc (v := (a6 + 1)) [some (.ref 2), some (.ref o1), none, some (.ref o3), some (.int a4), some (.int a5), some (.int (a6 + 1)), none, none, some (.long s0), none] dX0_value_300 rfl rfl (by decide) rfl ?_
      refine sp_goto (tgt := 24) dX0_value_303 (by decide) ?_
      refine sp_weak [true, true, false, true, true, true, true, false, false, false, false] [some (.ref 2), some (.ref o1), none, some (.ref o3), some (.int a4), some (.int a5), some (.int (a6 + 1)), none, none, none, none] rfl ?_
      exact hb _ _ _ _ h
    · have h := (if_neg hc35).symm.trans h
      refine sp_ldc (v := (-2000000000)) dX0_value_287 tw_538 ?_
      cases h
      exact sp_iret dX0_value_289 (ty := .int) rfl rfl (fun _ => hQ)
set_option maxRecDepth 100000 in
set_option maxHeartbeats 4000000 in
theorem tX0_value_l24 {g : sp_G} {Ω : sp_Mem → Prop} {Q : sp_Qt} {F : Nat} {p : (Int32 × sp_Mem)} (hG : sp_Ok Ω) {o1 : Nat} (ho1 : ∀ M, Ω M → sp_text M o1) {o3 : Nat} (ho3 : sp_words o3)  {kx : sp_Mem → Option (Int32 × sp_Mem)} (hQ : Q (some (.int p.1)) p.2) (hx : ∀  (M : sp_Mem), kx M = some p → sp_Wp g Ω mX0_value 0 0 306 [none, none, none, none, none, none, none, none, none, none, none] [] M Q) : ∀ (n : Nat) (a4 : Int32) (a5 : Int32) (a6 : Int32) (M : sp_Mem), fX0_value_l24 F o1 o3 kx n a4 a5 a6 M = some p → sp_Wp g Ω mX0_value 0 0 24 [some (.ref 2), some (.ref o1), none, some (.ref o3), some (.int a4), some (.int a5), some (.int a6), none, none, none, none] [] M Q := by
  intro n
  induction n with
  | zero =>
    intro a4 a5 a6 M h
    rw [fX0_value_l24] at h
    cases h
  | succ n ih =>
    intro a4 a5 a6 M h
    rw [fX0_value_l24] at h
    refine sp_iload dX0_value_24 rfl ?_
    refine sp_iload dX0_value_26 rfl ?_
    refine sp_icmp_ge (tgt := 306) dX0_value_28 (by decide) (fun hc3 => ?_) (fun hc3 => ?_)
    · have h := (if_pos hc3).symm.trans h
      refine sp_weak [false, false, false, false, false, false, false, false, false, false, false] [none, none, none, none, none, none, none, none, none, none, none] rfl ?_
      exact hx _ h
    · have h := (if_neg hc3).symm.trans h
      refine sp_aload_n dX0_value_31 rfl rfl ?_
      refine sp_use (fun ho => ?_)
      have hs := hG.1 _ ho
      refine sp_getR (RX9, TX9, 4) dX0_value_32 clX9 (j := 1) (by decide) tw_370 (ho1 _ ho).1 (Or.inr ⟨_, rfl⟩) (ho1 _ ho).2.2.1 ?_
      refine sp_iload dX0_value_35 rfl ?_
      obtain ⟨j4, hj4, h⟩ := Option.bind_eq_some_iff.mp h
      refine sp_iald2 (j := j4) dX0_value_37 (ho1 _ ho).2.2.2.2 rfl hj4 ?_
      refine sp_bipush (v := 31) dX0_value_38 (by decide) ?_
      refine sp_iand dX0_value_40 ?_
      obtain ⟨u5, hu5, h⟩ := sp_do_e h
      refine sp_topi hu5 ?_
      refine sp_istore [some (.ref 2), some (.ref o1), none, some (.ref o3), some (.int a4), some (.int a5), some (.int a6), some (.int u5), none, none, none] dX0_value_41 (by decide) rfl ?_
      refine sp_aload_n dX0_value_43 rfl rfl ?_
      refine sp_getR (RX9, TX9, 4) dX0_value_44 clX9 (j := 1) (by decide) tw_370 (ho1 _ ho).1 (Or.inr ⟨_, rfl⟩) (ho1 _ ho).2.2.1 ?_
      refine sp_iload dX0_value_47 rfl ?_
      obtain ⟨j6, hj6, h⟩ := Option.bind_eq_some_iff.mp h
      refine sp_iald2 (j := j6) dX0_value_49 (ho1 _ ho).2.2.2.2 rfl hj6 ?_
      refine sp_iconst (v := 5) dX0_value_50 (by decide) ?_
      refine sp_ishr dX0_value_51 ?_
      obtain ⟨u7, hu7, h⟩ := sp_do_e h
      refine sp_topi hu7 ?_
      refine sp_istore [some (.ref 2), some (.ref o1), none, some (.ref o3), some (.int a4), some (.int a5), some (.int a6), some (.int u5), some (.int u7), none, none] dX0_value_52 (by decide) rfl ?_
      refine sp_iload dX0_value_54 rfl ?_
      refine sp_iconst (v := 1) dX0_value_56 (by decide) ?_
      refine sp_icmp_eq (tgt := 66) dX0_value_57 (by decide) (fun hc8 => ?_) (fun hc8 => ?_)
      · have h := (if_pos hc8).symm.trans h
        refine sp_weak [true, true, false, true, true, true, true, true, true, false, false] [some (.ref 2), some (.ref o1), none, some (.ref o3), some (.int a4), some (.int a5), some (.int a6), some (.int u5), some (.int u7), none, none] rfl ?_
        exact tX0_value_j66 hG ho1 ho3 hQ ih hx _ _ _ _ _ _ h
      · have h := (if_neg hc8).symm.trans h
        refine sp_iload dX0_value_60 rfl ?_
        refine sp_iconst (v := 2) dX0_value_62 (by decide) ?_
        refine sp_icmp_ne (tgt := 120) dX0_value_63 (by decide) (fun hc18 => ?_) (fun hc18 => ?_)
        · have h := (if_neg hc18).symm.trans h
          refine sp_iload dX0_value_120 rfl ?_
          refine sp_if_lt (tgt := 130) dX0_value_122 (by decide) (fun hc19 => ?_) (fun hc19 => ?_)
          · have h := (if_pos hc19).symm.trans h
            refine sp_weak [true, false, false, false, true, false, false, false, false, false, false] [some (.ref 2), none, none, none, some (.int a4), none, none, none, none, none, none] rfl ?_
            exact tX0_value_j130 hG ho1 ho3 hQ ih hx _ _ h
          · have h := (if_neg hc19).symm.trans h
            refine sp_iload dX0_value_125 rfl ?_
            refine sp_if_ne (tgt := 148) dX0_value_127 (by decide) (fun hc22 => ?_) (fun hc22 => ?_)
            · have h := (if_neg hc22).symm.trans h
              refine sp_iload dX0_value_148 rfl ?_
              refine sp_bipush (v := 11) dX0_value_150 (by decide) ?_
              refine sp_icmp_ne (tgt := 174) dX0_value_152 (by decide) (fun hc23 => ?_) (fun hc23 => ?_)
              · have h := (if_neg hc23).symm.trans h
                refine sp_iload dX0_value_174 rfl ?_
                refine sp_bipush (v := 12) dX0_value_176 (by decide) ?_
                refine sp_icmp_eq (tgt := 188) dX0_value_178 (by decide) (fun hc24 => ?_) (fun hc24 => ?_)
                · have h := (if_pos hc24).symm.trans h
                  refine sp_weak [true, true, false, true, true, true, true, true, true, false, false] [some (.ref 2), some (.ref o1), none, some (.ref o3), some (.int a4), some (.int a5), some (.int a6), some (.int u5), some (.int u7), none, none] rfl ?_
                  exact tX0_value_j188 hG ho1 ho3 hQ ih hx _ _ _ _ _ _ h
                · have h := (if_neg hc24).symm.trans h
                  refine sp_iload dX0_value_181 rfl ?_
                  refine sp_bipush (v := 13) dX0_value_183 (by decide) ?_
                  refine sp_icmp_ne (tgt := 230) dX0_value_185 (by decide) (fun hc29 => ?_) (fun hc29 => ?_)
                  · have h := (if_neg hc29).symm.trans h
                    refine sp_iinc (v := (a4 + (-1))) [some (.ref 2), some (.ref o1), none, some (.ref o3), some (.int (a4 + (-1))), some (.int a5), some (.int a6), some (.int u5), some (.int u7), none, none] dX0_value_230 rfl rfl (by decide) rfl ?_
                    refine sp_iload dX0_value_233 rfl ?_
                    refine sp_if_ge (tgt := 244) dX0_value_235 (by decide) (fun hc30 => ?_) (fun hc30 => ?_)
                    · have h := (if_pos hc30).symm.trans h
                      refine sp_iload dX0_value_244 rfl ?_
                      refine sp_aload_n dX0_value_246 rfl rfl ?_
                      refine sp_getR (RX0, TX0, 1) dX0_value_247 clX0 (j := 0) (by decide) tw_139 (wsI_2 hs) (Or.inr ⟨_, rfl⟩) (wsP_2_0 hs) ?_
                      refine sp_iload dX0_value_250 rfl ?_
                      obtain ⟨j31, hj31, h⟩ := Option.bind_eq_some_iff.mp h
                      refine sp_iald2 (j := j31) dX0_value_252 (wsA_3 hs) (wsN_3 hs) hj31 ?_
                      refine sp_i2l dX0_value_253 ?_
                      refine sp_aload_n dX0_value_254 rfl rfl ?_
                      refine sp_getR (RX0, TX0, 1) dX0_value_255 clX0 (j := 0) (by decide) tw_139 (wsI_2 hs) (Or.inr ⟨_, rfl⟩) (wsP_2_0 hs) ?_
                      refine sp_iload dX0_value_258 rfl ?_
                      refine sp_iconst (v := 1) dX0_value_260 (by decide) ?_
                      refine sp_iadd dX0_value_261 ?_
                      obtain ⟨j32, hj32, h⟩ := Option.bind_eq_some_iff.mp h
                      refine sp_iald2 (j := j32) dX0_value_262 (wsA_3 hs) (wsN_3 hs) hj32 ?_
                      refine sp_i2l dX0_value_263 ?_
                      obtain ⟨v33, hv33, h⟩ := Option.bind_eq_some_iff.mp h
                      refine sp_cS (M1 := M) (r := some (.long v33)) (st := []) [.int u5, .long (Int32.toInt64 (sp_I M 3 j31)), .long (Int32.toInt64 (sp_I M 3 j32))] [.long (Int32.toInt64 (sp_I M 3 j32)), .long (Int32.toInt64 (sp_I M 3 j31)), .int u5] [.long v33] dX0_value_264 okX0_joined tw_540 tw_541 (by decide) (by decide) rfl (Nat.le_of_ble_eq_true rfl) rfl rfl (fun Q hQ => tX0_joined hG hv33 hQ) ?_
                      refine sp_weak [true, true, false, true, true, true, true, false, false, false, false] [some (.ref 2), some (.ref o1), none, some (.ref o3), some (.int (a4 + (-1))), some (.int a5), some (.int a6), none, none, none, none] rfl ?_
                      exact tX0_value_j267 hG ho1 ho3 hQ ih hx _ _ _ _ _ h
                    · have h := (if_neg hc30).symm.trans h
                      refine sp_ldc2 (v := (-2000000000)) dX0_value_238 tw_539 ?_
                      refine sp_goto (tgt := 267) dX0_value_241 (by decide) ?_
                      refine sp_weak [true, true, false, true, true, true, true, false, false, false, false] [some (.ref 2), some (.ref o1), none, some (.ref o3), some (.int (a4 + (-1))), some (.int a5), some (.int a6), none, none, none, none] rfl ?_
                      exact tX0_value_j267 hG ho1 ho3 hQ ih hx _ _ _ _ _ h
                  · have h := (if_pos hc29).symm.trans h
                    refine sp_weak [true, true, false, true, true, true, true, true, true, false, false] [some (.ref 2), some (.ref o1), none, some (.ref o3), some (.int a4), some (.int a5), some (.int a6), some (.int u5), some (.int u7), none, none] rfl ?_
                    exact tX0_value_j188 hG ho1 ho3 hQ ih hx _ _ _ _ _ _ h
              · have h := (if_pos hc23).symm.trans h
                refine sp_aload_n dX0_value_155 rfl rfl ?_
                refine sp_getR (RX0, TX0, 1) dX0_value_156 clX0 (j := 0) (by decide) tw_139 (wsI_2 hs) (Or.inr ⟨_, rfl⟩) (wsP_2_0 hs) ?_
                refine sp_iload dX0_value_159 rfl ?_
                refine sp_iconst (v := 1) dX0_value_161 (by decide) ?_
                refine sp_aload_n dX0_value_162 rfl rfl ?_
                refine sp_getR (RX0, TX0, 1) dX0_value_163 clX0 (j := 0) (by decide) tw_139 (wsI_2 hs) (Or.inr ⟨_, rfl⟩) (wsP_2_0 hs) ?_
                refine sp_iload dX0_value_166 rfl ?_
                obtain ⟨j38, hj38, h⟩ := Option.bind_eq_some_iff.mp h
                refine sp_iald2 (j := j38) dX0_value_168 (wsA_3 hs) (wsN_3 hs) hj38 ?_
                refine sp_isub dX0_value_169 ?_
                obtain ⟨j39, hj39, h⟩ := Option.bind_eq_some_iff.mp h
                obtain ⟨M40, hM40, h⟩ := sp_do_e h
                refine sp_iast2 (j := j39) hG dX0_value_170 (wsA_3 hs) (wsN_3 hs) hj39 hM40 ?_
                refine sp_goto (tgt := 300) dX0_value_171 (by decide) ?_
                refine sp_iinc (v := (a6 + 1)) [some (.ref 2), some (.ref o1), none, some (.ref o3), some (.int a4), some (.int a5), some (.int (a6 + 1)), some (.int u5), some (.int u7), none, none] dX0_value_300 rfl rfl (by decide) rfl ?_
                refine sp_goto (tgt := 24) dX0_value_303 (by decide) ?_
                refine sp_weak [true, true, false, true, true, true, true, false, false, false, false] [some (.ref 2), some (.ref o1), none, some (.ref o3), some (.int a4), some (.int a5), some (.int (a6 + 1)), none, none, none, none] rfl ?_
                exact ih _ _ _ _ h
            · have h := (if_pos hc22).symm.trans h
              refine sp_weak [true, false, false, false, true, false, false, false, false, false, false] [some (.ref 2), none, none, none, some (.int a4), none, none, none, none, none, none] rfl ?_
              exact tX0_value_j130 hG ho1 ho3 hQ ih hx _ _ h
        · have h := (if_pos hc18).symm.trans h
          refine sp_weak [true, true, false, true, true, true, true, true, true, false, false] [some (.ref 2), some (.ref o1), none, some (.ref o3), some (.int a4), some (.int a5), some (.int a6), some (.int u5), some (.int u7), none, none] rfl ?_
          exact tX0_value_j66 hG ho1 ho3 hQ ih hx _ _ _ _ _ _ h
set_option maxRecDepth 100000 in
set_option maxHeartbeats 4000000 in
theorem tX0_value {g : sp_G} {Ω : sp_Mem → Prop} {Q : sp_Qt} {F : Nat} {p : (Int32 × sp_Mem)} (hG : sp_Ok Ω) {o1 : Nat} (ho1 : ∀ M, Ω M → sp_text M o1) {o3 : Nat} (ho3 : sp_words o3) {M : sp_Mem} {a2 : Int32} (h : fX0_value F M o1 a2 o3 = some p) (hQ : Q (some (.int p.1)) p.2) : sp_Mt g Ω mX0_value 0 0 [.ref 2, .ref o1, .int a2, .ref o3] M Q := by
  unfold fX0_value at h
  refine sp_Mt.of [some (.ref 2), some (.ref o1), some (.int a2), some (.ref o3), none, none, none, none, none, none, none] (by decide) (by simp [sp_ent, Value.category]) rfl ?_
  refine sp_iconst (v := (-1)) dX0_value_0 (by decide) ?_
  refine sp_istore [some (.ref 2), some (.ref o1), some (.int a2), some (.ref o3), some (.int (-1)), none, none, none, none, none, none] dX0_value_1 (by decide) rfl ?_
  refine sp_aload_n dX0_value_3 rfl rfl ?_
  refine sp_use (fun ho => ?_)
  have hs := hG.1 _ ho
  refine sp_getI (RX9, TX9, 4) dX0_value_4 clX9 (j := 3) (by decide) tw_374 (ho1 _ ho).1 (Or.inl rfl) ?_
  refine sp_aload_n dX0_value_7 rfl rfl ?_
  refine sp_getR (RX9, TX9, 4) dX0_value_8 clX9 (j := 1) (by decide) tw_370 (ho1 _ ho).1 (Or.inr ⟨_, rfl⟩) (ho1 _ ho).2.2.1 ?_
  refine sp_alen 0 (by decide) dX0_value_11 (ho1 _ ho).2.2.2.2 rfl ?_
  refine sp_mmin dX0_value_12 tw_532 (by decide) (Nat.le_of_ble_eq_true rfl) ?_
  obtain ⟨u1, hu1, h⟩ := sp_do_e h
  refine sp_topi hu1 ?_
  refine sp_istore [some (.ref 2), some (.ref o1), some (.int a2), some (.ref o3), some (.int (-1)), some (.int u1), none, none, none, none, none] dX0_value_15 (by decide) rfl ?_
  refine sp_iconst (v := 0) dX0_value_17 (by decide) ?_
  refine sp_iload_n dX0_value_18 rfl rfl ?_
  refine sp_mmax dX0_value_19 tw_535 (by decide) (Nat.le_of_ble_eq_true rfl) ?_
  obtain ⟨u2, hu2, h⟩ := sp_do_e h
  refine sp_topi hu2 ?_
  refine sp_istore [some (.ref 2), some (.ref o1), some (.int a2), some (.ref o3), some (.int (-1)), some (.int u1), some (.int u2), none, none, none, none] dX0_value_22 (by decide) rfl ?_
  refine sp_weak [true, true, false, true, true, true, true, false, false, false, false] [some (.ref 2), some (.ref o1), none, some (.ref o3), some (.int (-1)), some (.int u1), some (.int u2), none, none, none, none] rfl ?_
  refine tX0_value_l24 hG ho1 ho3 hQ (fun M41 h => ?_) F _ _ _ _ h
  refine sp_ldc (v := (-2000000000)) dX0_value_306 tw_538 ?_
  cases h
  exact sp_iret dX0_value_308 (ty := .int) rfl rfl (fun _ => hQ)
def fX5_copyFrom_l172 (F : Nat) (o0 : Nat) (o1 : Nat) (kx : sp_Mem → Option sp_Mem) : Nat → Int32 → sp_Mem → Option sp_Mem
  | 0, _, _ => none
  | n + 1, a2, M =>
  if 6 ≤ a2 then (kx M) else ((sp_ix 6 a2).bind fun j15 => (sp_ix 6 a2).bind fun j16 => sp_do (sp_setP M (o0 + 11) j16 (sp_P M (o1 + 11) j15)) fun M17 => (fX5_copyFrom_l172 F o0 o1 kx n) (a2 + 1) M17)
def fX5_copyFrom (F : Nat) (M : sp_Mem) (o0 : Nat) (o1 : Nat) : Option sp_Mem :=
  sp_do (sp_cpy M (o1 + 1) (o0 + 1) 0 0 25) fun M1 => sp_do (sp_cpy M1 (o1 + 2) (o0 + 2) 0 0 6) fun M2 => sp_do (sp_cpy M2 (o1 + 3) (o0 + 3) 0 0 6) fun M3 => sp_do (sp_cpy M3 (o1 + 4) (o0 + 4) 0 0 6) fun M4 => sp_do (sp_setI M4 o0 4 (sp_I M4 o1 4)) fun M5 => sp_do (sp_cpy M5 (o1 + 5) (o0 + 5) 0 0 5) fun M6 => sp_do (sp_cpy M6 (o1 + 6) (o0 + 6) 0 0 5) fun M7 => sp_do (sp_cpy M7 (o1 + 7) (o0 + 7) 0 0 5) fun M8 => sp_do (sp_setI M8 o0 8 (sp_I M8 o1 8)) fun M9 => sp_do (sp_cpy M9 (o1 + 8) (o0 + 8) 0 0 6) fun M10 => sp_do (sp_cpy M10 (o1 + 9) (o0 + 9) 0 0 6) fun M11 => sp_do (sp_setI M11 o0 11 (sp_I M11 o1 11)) fun M12 => sp_do (sp_cpy M12 (o1 + 10) (o0 + 10) 0 0 4) fun M13 => fX5_copyFrom_l172 F o0 o1 (fun M18 => sp_do (sp_setI M18 o0 14 (sp_I M18 o1 14)) fun M19 => sp_do (sp_setI M19 o0 15 (sp_I M19 o1 15)) fun M20 => some M20) F 0 M13
set_option maxRecDepth 100000 in
set_option maxHeartbeats 4000000 in
theorem tX5_copyFrom_l172 {g : sp_G} {Ω : sp_Mem → Prop} {Q : sp_Qt} {F : Nat} {p : sp_Mem} (hG : sp_Ok Ω) {o0 : Nat} (ho0 : sp_room o0) {o1 : Nat} (ho1 : sp_room o1)  {kx : sp_Mem → Option sp_Mem} (hQ : Q none p) (hx : ∀  (M : sp_Mem), kx M = some p → sp_Wp g Ω mX5_copyFrom 0 0 196 [some (.ref o0), some (.ref o1), none] [] M Q) : ∀ (n : Nat) (a2 : Int32) (M : sp_Mem), fX5_copyFrom_l172 F o0 o1 kx n a2 M = some p → sp_Wp g Ω mX5_copyFrom 0 0 172 [some (.ref o0), some (.ref o1), some (.int a2)] [] M Q := by
  intro n
  induction n with
  | zero =>
    intro a2 M h
    rw [fX5_copyFrom_l172] at h
    cases h
  | succ n ih =>
    intro a2 M h
    rw [fX5_copyFrom_l172] at h
    refine sp_iload_n dX5_copyFrom_172 rfl rfl ?_
    refine sp_bipush (v := 6) dX5_copyFrom_173 (by decide) ?_
    refine sp_icmp_ge (tgt := 196) dX5_copyFrom_175 (by decide) (fun hc14 => ?_) (fun hc14 => ?_)
    · have h := (if_pos hc14).symm.trans h
      refine sp_weak [true, true, false] [some (.ref o0), some (.ref o1), none] rfl ?_
      exact hx _ h
    · have h := (if_neg hc14).symm.trans h
      refine sp_aload_n dX5_copyFrom_178 rfl rfl ?_
      refine sp_use (fun ho => ?_)
      have hs := hG.1 _ ho
      refine sp_getR (RX5, TX5, 16) dX5_copyFrom_179 clX5 (j := 13) (by decide) tw_215 (rmI hs ho0) (Or.inr ⟨_, rfl⟩) (rmP_13 hs ho0) ?_
      refine sp_iload_n dX5_copyFrom_182 rfl rfl ?_
      refine sp_aload_n dX5_copyFrom_183 rfl rfl ?_
      refine sp_getR (RX5, TX5, 16) dX5_copyFrom_184 clX5 (j := 13) (by decide) tw_215 (rmI hs ho1) (Or.inr ⟨_, rfl⟩) (rmP_13 hs ho1) ?_
      refine sp_iload_n dX5_copyFrom_187 rfl rfl ?_
      obtain ⟨j15, hj15, h⟩ := Option.bind_eq_some_iff.mp h
      refine sp_aald2 (j := j15) 4 (by decide) dX5_copyFrom_188 (rmA_11 hs ho1) (rmN_11 hs ho1) hj15 ?_
      obtain ⟨j16, hj16, h⟩ := Option.bind_eq_some_iff.mp h
      obtain ⟨M17, hM17, h⟩ := sp_do_e h
      refine sp_aast2 (x := (sp_P M (o1 + 11) j15)) (j := j16) hG dX5_copyFrom_189 ho0 (rmA_11 hs ho0) (rmN_11 hs ho0) hj16 (fun t ht => rm_text hs ho1 ht) hM17 ?_
      refine sp_iinc (v := (a2 + 1)) [some (.ref o0), some (.ref o1), some (.int (a2 + 1))] dX5_copyFrom_190 rfl rfl (by decide) rfl ?_
      refine sp_goto (tgt := 172) dX5_copyFrom_193 (by decide) ?_
      refine sp_weak [true, true, true] [some (.ref o0), some (.ref o1), some (.int (a2 + 1))] rfl ?_
      exact ih _ _ h
set_option maxRecDepth 100000 in
set_option maxHeartbeats 4000000 in
theorem tX5_copyFrom {g : sp_G} {Ω : sp_Mem → Prop} {Q : sp_Qt} {F : Nat} {p : sp_Mem} (hG : sp_Ok Ω) {o0 : Nat} (ho0 : sp_room o0) {o1 : Nat} (ho1 : sp_room o1) {M : sp_Mem} (h : fX5_copyFrom F M o0 o1 = some p) (hQ : Q none p) : sp_Mt g Ω mX5_copyFrom 0 0 [.ref o0, .ref o1] M Q := by
  unfold fX5_copyFrom at h
  refine sp_Mt.of [some (.ref o0), some (.ref o1), none] (by decide) (by simp [sp_ent, Value.category]) rfl ?_
  refine sp_aload_n dX5_copyFrom_0 rfl rfl ?_
  refine sp_use (fun ho => ?_)
  have hs := hG.1 _ ho
  refine sp_getR (RX5, TX5, 16) dX5_copyFrom_1 clX5 (j := 0) (by decide) tw_165 (rmI hs ho1) (Or.inr ⟨_, rfl⟩) (rmP_0 hs ho1) ?_
  refine sp_iconst (v := 0) dX5_copyFrom_4 (by decide) ?_
  refine sp_aload_n dX5_copyFrom_5 rfl rfl ?_
  refine sp_getR (RX5, TX5, 16) dX5_copyFrom_6 clX5 (j := 0) (by decide) tw_165 (rmI hs ho0) (Or.inr ⟨_, rfl⟩) (rmP_0 hs ho0) ?_
  refine sp_iconst (v := 0) dX5_copyFrom_9 (by decide) ?_
  refine sp_bipush (v := 25) dX5_copyFrom_10 (by decide) ?_
  obtain ⟨M1, hM1, h⟩ := sp_do_e h
  refine sp_copy2 dX5_copyFrom_12 tw_855 tw_837 tw_836 tw_116 hG (rmA_1 hs ho1) (rmA_1 hs ho0) (by decide) (by decide) (by decide) (show (0 : Int32).toNatClampNeg = 0 by decide) (show (0 : Int32).toNatClampNeg = 0 by decide) (show (25 : Int32).toNatClampNeg = 25 by decide) (by rw [(rmN_1 hs ho1)]; decide) (by rw [(rmN_1 hs ho0)]; decide) (by decide) (Nat.le_of_ble_eq_true rfl) hM1 ?_
  refine sp_aload_n dX5_copyFrom_15 rfl rfl ?_
  refine sp_use (fun ho => ?_)
  have hs := hG.1 _ ho
  refine sp_getR (RX5, TX5, 16) dX5_copyFrom_16 clX5 (j := 1) (by decide) tw_169 (rmI hs ho1) (Or.inr ⟨_, rfl⟩) (rmP_1 hs ho1) ?_
  refine sp_iconst (v := 0) dX5_copyFrom_19 (by decide) ?_
  refine sp_aload_n dX5_copyFrom_20 rfl rfl ?_
  refine sp_getR (RX5, TX5, 16) dX5_copyFrom_21 clX5 (j := 1) (by decide) tw_169 (rmI hs ho0) (Or.inr ⟨_, rfl⟩) (rmP_1 hs ho0) ?_
  refine sp_iconst (v := 0) dX5_copyFrom_24 (by decide) ?_
  refine sp_bipush (v := 6) dX5_copyFrom_25 (by decide) ?_
  obtain ⟨M2, hM2, h⟩ := sp_do_e h
  refine sp_copy2 dX5_copyFrom_27 tw_855 tw_837 tw_836 tw_116 hG (rmA_2 hs ho1) (rmA_2 hs ho0) (by decide) (by decide) (by decide) (show (0 : Int32).toNatClampNeg = 0 by decide) (show (0 : Int32).toNatClampNeg = 0 by decide) (show (6 : Int32).toNatClampNeg = 6 by decide) (by rw [(rmN_2 hs ho1)]; decide) (by rw [(rmN_2 hs ho0)]; decide) (by decide) (Nat.le_of_ble_eq_true rfl) hM2 ?_
  refine sp_aload_n dX5_copyFrom_30 rfl rfl ?_
  refine sp_use (fun ho => ?_)
  have hs := hG.1 _ ho
  refine sp_getR (RX5, TX5, 16) dX5_copyFrom_31 clX5 (j := 2) (by decide) tw_175 (rmI hs ho1) (Or.inr ⟨_, rfl⟩) (rmP_2 hs ho1) ?_
  refine sp_iconst (v := 0) dX5_copyFrom_34 (by decide) ?_
  refine sp_aload_n dX5_copyFrom_35 rfl rfl ?_
  refine sp_getR (RX5, TX5, 16) dX5_copyFrom_36 clX5 (j := 2) (by decide) tw_175 (rmI hs ho0) (Or.inr ⟨_, rfl⟩) (rmP_2 hs ho0) ?_
  refine sp_iconst (v := 0) dX5_copyFrom_39 (by decide) ?_
  refine sp_bipush (v := 6) dX5_copyFrom_40 (by decide) ?_
  obtain ⟨M3, hM3, h⟩ := sp_do_e h
  refine sp_copy2 dX5_copyFrom_42 tw_855 tw_837 tw_836 tw_116 hG (rmA_3 hs ho1) (rmA_3 hs ho0) (by decide) (by decide) (by decide) (show (0 : Int32).toNatClampNeg = 0 by decide) (show (0 : Int32).toNatClampNeg = 0 by decide) (show (6 : Int32).toNatClampNeg = 6 by decide) (by rw [(rmN_3 hs ho1)]; decide) (by rw [(rmN_3 hs ho0)]; decide) (by decide) (Nat.le_of_ble_eq_true rfl) hM3 ?_
  refine sp_aload_n dX5_copyFrom_45 rfl rfl ?_
  refine sp_use (fun ho => ?_)
  have hs := hG.1 _ ho
  refine sp_getR (RX5, TX5, 16) dX5_copyFrom_46 clX5 (j := 3) (by decide) tw_179 (rmI hs ho1) (Or.inr ⟨_, rfl⟩) (rmP_3 hs ho1) ?_
  refine sp_iconst (v := 0) dX5_copyFrom_49 (by decide) ?_
  refine sp_aload_n dX5_copyFrom_50 rfl rfl ?_
  refine sp_getR (RX5, TX5, 16) dX5_copyFrom_51 clX5 (j := 3) (by decide) tw_179 (rmI hs ho0) (Or.inr ⟨_, rfl⟩) (rmP_3 hs ho0) ?_
  refine sp_iconst (v := 0) dX5_copyFrom_54 (by decide) ?_
  refine sp_bipush (v := 6) dX5_copyFrom_55 (by decide) ?_
  obtain ⟨M4, hM4, h⟩ := sp_do_e h
  refine sp_copy2 dX5_copyFrom_57 tw_855 tw_837 tw_836 tw_116 hG (rmA_4 hs ho1) (rmA_4 hs ho0) (by decide) (by decide) (by decide) (show (0 : Int32).toNatClampNeg = 0 by decide) (show (0 : Int32).toNatClampNeg = 0 by decide) (show (6 : Int32).toNatClampNeg = 6 by decide) (by rw [(rmN_4 hs ho1)]; decide) (by rw [(rmN_4 hs ho0)]; decide) (by decide) (Nat.le_of_ble_eq_true rfl) hM4 ?_
  refine sp_aload_n dX5_copyFrom_60 rfl rfl ?_
  refine sp_aload_n dX5_copyFrom_61 rfl rfl ?_
  refine sp_use (fun ho => ?_)
  have hs := hG.1 _ ho
  refine sp_getI (RX5, TX5, 16) dX5_copyFrom_62 clX5 (j := 4) (by decide) tw_184 (rmI hs ho1) (Or.inl rfl) ?_
  obtain ⟨M5, hM5, h⟩ := sp_do_e h
  refine sp_putI2 (RX5, TX5, 16) hG dX5_copyFrom_65 clX5 (j := 4) (by decide) tw_184 rfl (Or.inl rfl) (rmI hs ho0) hM5 ?_
  refine sp_aload_n dX5_copyFrom_68 rfl rfl ?_
  refine sp_use (fun ho => ?_)
  have hs := hG.1 _ ho
  refine sp_getR (RX5, TX5, 16) dX5_copyFrom_69 clX5 (j := 5) (by decide) tw_188 (rmI hs ho1) (Or.inr ⟨_, rfl⟩) (rmP_5 hs ho1) ?_
  refine sp_iconst (v := 0) dX5_copyFrom_72 (by decide) ?_
  refine sp_aload_n dX5_copyFrom_73 rfl rfl ?_
  refine sp_getR (RX5, TX5, 16) dX5_copyFrom_74 clX5 (j := 5) (by decide) tw_188 (rmI hs ho0) (Or.inr ⟨_, rfl⟩) (rmP_5 hs ho0) ?_
  refine sp_iconst (v := 0) dX5_copyFrom_77 (by decide) ?_
  refine sp_iconst (v := 5) dX5_copyFrom_78 (by decide) ?_
  obtain ⟨M6, hM6, h⟩ := sp_do_e h
  refine sp_copy2 dX5_copyFrom_79 tw_855 tw_837 tw_836 tw_116 hG (rmA_5 hs ho1) (rmA_5 hs ho0) (by decide) (by decide) (by decide) (show (0 : Int32).toNatClampNeg = 0 by decide) (show (0 : Int32).toNatClampNeg = 0 by decide) (show (5 : Int32).toNatClampNeg = 5 by decide) (by rw [(rmN_5 hs ho1)]; decide) (by rw [(rmN_5 hs ho0)]; decide) (by decide) (Nat.le_of_ble_eq_true rfl) hM6 ?_
  refine sp_aload_n dX5_copyFrom_82 rfl rfl ?_
  refine sp_use (fun ho => ?_)
  have hs := hG.1 _ ho
  refine sp_getR (RX5, TX5, 16) dX5_copyFrom_83 clX5 (j := 6) (by decide) tw_192 (rmI hs ho1) (Or.inr ⟨_, rfl⟩) (rmP_6 hs ho1) ?_
  refine sp_iconst (v := 0) dX5_copyFrom_86 (by decide) ?_
  refine sp_aload_n dX5_copyFrom_87 rfl rfl ?_
  refine sp_getR (RX5, TX5, 16) dX5_copyFrom_88 clX5 (j := 6) (by decide) tw_192 (rmI hs ho0) (Or.inr ⟨_, rfl⟩) (rmP_6 hs ho0) ?_
  refine sp_iconst (v := 0) dX5_copyFrom_91 (by decide) ?_
  refine sp_iconst (v := 5) dX5_copyFrom_92 (by decide) ?_
  obtain ⟨M7, hM7, h⟩ := sp_do_e h
  refine sp_copy2 dX5_copyFrom_93 tw_855 tw_837 tw_836 tw_116 hG (rmA_6 hs ho1) (rmA_6 hs ho0) (by decide) (by decide) (by decide) (show (0 : Int32).toNatClampNeg = 0 by decide) (show (0 : Int32).toNatClampNeg = 0 by decide) (show (5 : Int32).toNatClampNeg = 5 by decide) (by rw [(rmN_6 hs ho1)]; decide) (by rw [(rmN_6 hs ho0)]; decide) (by decide) (Nat.le_of_ble_eq_true rfl) hM7 ?_
  refine sp_aload_n dX5_copyFrom_96 rfl rfl ?_
  refine sp_use (fun ho => ?_)
  have hs := hG.1 _ ho
  refine sp_getR (RX5, TX5, 16) dX5_copyFrom_97 clX5 (j := 7) (by decide) tw_195 (rmI hs ho1) (Or.inr ⟨_, rfl⟩) (rmP_7 hs ho1) ?_
  refine sp_iconst (v := 0) dX5_copyFrom_100 (by decide) ?_
  refine sp_aload_n dX5_copyFrom_101 rfl rfl ?_
  refine sp_getR (RX5, TX5, 16) dX5_copyFrom_102 clX5 (j := 7) (by decide) tw_195 (rmI hs ho0) (Or.inr ⟨_, rfl⟩) (rmP_7 hs ho0) ?_
  refine sp_iconst (v := 0) dX5_copyFrom_105 (by decide) ?_
  refine sp_iconst (v := 5) dX5_copyFrom_106 (by decide) ?_
  obtain ⟨M8, hM8, h⟩ := sp_do_e h
  refine sp_copy2 dX5_copyFrom_107 tw_855 tw_837 tw_836 tw_116 hG (rmA_7 hs ho1) (rmA_7 hs ho0) (by decide) (by decide) (by decide) (show (0 : Int32).toNatClampNeg = 0 by decide) (show (0 : Int32).toNatClampNeg = 0 by decide) (show (5 : Int32).toNatClampNeg = 5 by decide) (by rw [(rmN_7 hs ho1)]; decide) (by rw [(rmN_7 hs ho0)]; decide) (by decide) (Nat.le_of_ble_eq_true rfl) hM8 ?_
  refine sp_aload_n dX5_copyFrom_110 rfl rfl ?_
  refine sp_aload_n dX5_copyFrom_111 rfl rfl ?_
  refine sp_use (fun ho => ?_)
  have hs := hG.1 _ ho
  refine sp_getI (RX5, TX5, 16) dX5_copyFrom_112 clX5 (j := 8) (by decide) tw_200 (rmI hs ho1) (Or.inl rfl) ?_
  obtain ⟨M9, hM9, h⟩ := sp_do_e h
  refine sp_putI2 (RX5, TX5, 16) hG dX5_copyFrom_115 clX5 (j := 8) (by decide) tw_200 rfl (Or.inl rfl) (rmI hs ho0) hM9 ?_
  refine sp_aload_n dX5_copyFrom_118 rfl rfl ?_
  refine sp_use (fun ho => ?_)
  have hs := hG.1 _ ho
  refine sp_getR (RX5, TX5, 16) dX5_copyFrom_119 clX5 (j := 9) (by decide) tw_203 (rmI hs ho1) (Or.inr ⟨_, rfl⟩) (rmP_9 hs ho1) ?_
  refine sp_iconst (v := 0) dX5_copyFrom_122 (by decide) ?_
  refine sp_aload_n dX5_copyFrom_123 rfl rfl ?_
  refine sp_getR (RX5, TX5, 16) dX5_copyFrom_124 clX5 (j := 9) (by decide) tw_203 (rmI hs ho0) (Or.inr ⟨_, rfl⟩) (rmP_9 hs ho0) ?_
  refine sp_iconst (v := 0) dX5_copyFrom_127 (by decide) ?_
  refine sp_bipush (v := 6) dX5_copyFrom_128 (by decide) ?_
  obtain ⟨M10, hM10, h⟩ := sp_do_e h
  refine sp_copy2 dX5_copyFrom_130 tw_855 tw_837 tw_836 tw_116 hG (rmA_8 hs ho1) (rmA_8 hs ho0) (by decide) (by decide) (by decide) (show (0 : Int32).toNatClampNeg = 0 by decide) (show (0 : Int32).toNatClampNeg = 0 by decide) (show (6 : Int32).toNatClampNeg = 6 by decide) (by rw [(rmN_8 hs ho1)]; decide) (by rw [(rmN_8 hs ho0)]; decide) (by decide) (Nat.le_of_ble_eq_true rfl) hM10 ?_
  refine sp_aload_n dX5_copyFrom_133 rfl rfl ?_
  refine sp_use (fun ho => ?_)
  have hs := hG.1 _ ho
  refine sp_getR (RX5, TX5, 16) dX5_copyFrom_134 clX5 (j := 10) (by decide) tw_205 (rmI hs ho1) (Or.inr ⟨_, rfl⟩) (rmP_10 hs ho1) ?_
  refine sp_iconst (v := 0) dX5_copyFrom_137 (by decide) ?_
  refine sp_aload_n dX5_copyFrom_138 rfl rfl ?_
  refine sp_getR (RX5, TX5, 16) dX5_copyFrom_139 clX5 (j := 10) (by decide) tw_205 (rmI hs ho0) (Or.inr ⟨_, rfl⟩) (rmP_10 hs ho0) ?_
  refine sp_iconst (v := 0) dX5_copyFrom_142 (by decide) ?_
  refine sp_bipush (v := 6) dX5_copyFrom_143 (by decide) ?_
  obtain ⟨M11, hM11, h⟩ := sp_do_e h
  refine sp_copy2 dX5_copyFrom_145 tw_855 tw_837 tw_836 tw_116 hG (rmA_9 hs ho1) (rmA_9 hs ho0) (by decide) (by decide) (by decide) (show (0 : Int32).toNatClampNeg = 0 by decide) (show (0 : Int32).toNatClampNeg = 0 by decide) (show (6 : Int32).toNatClampNeg = 6 by decide) (by rw [(rmN_9 hs ho1)]; decide) (by rw [(rmN_9 hs ho0)]; decide) (by decide) (Nat.le_of_ble_eq_true rfl) hM11 ?_
  refine sp_aload_n dX5_copyFrom_148 rfl rfl ?_
  refine sp_aload_n dX5_copyFrom_149 rfl rfl ?_
  refine sp_use (fun ho => ?_)
  have hs := hG.1 _ ho
  refine sp_getI (RX5, TX5, 16) dX5_copyFrom_150 clX5 (j := 11) (by decide) tw_208 (rmI hs ho1) (Or.inl rfl) ?_
  obtain ⟨M12, hM12, h⟩ := sp_do_e h
  refine sp_putI2 (RX5, TX5, 16) hG dX5_copyFrom_153 clX5 (j := 11) (by decide) tw_208 rfl (Or.inl rfl) (rmI hs ho0) hM12 ?_
  refine sp_aload_n dX5_copyFrom_156 rfl rfl ?_
  refine sp_use (fun ho => ?_)
  have hs := hG.1 _ ho
  refine sp_getR (RX5, TX5, 16) dX5_copyFrom_157 clX5 (j := 12) (by decide) tw_210 (rmI hs ho1) (Or.inr ⟨_, rfl⟩) (rmP_12 hs ho1) ?_
  refine sp_iconst (v := 0) dX5_copyFrom_160 (by decide) ?_
  refine sp_aload_n dX5_copyFrom_161 rfl rfl ?_
  refine sp_getR (RX5, TX5, 16) dX5_copyFrom_162 clX5 (j := 12) (by decide) tw_210 (rmI hs ho0) (Or.inr ⟨_, rfl⟩) (rmP_12 hs ho0) ?_
  refine sp_iconst (v := 0) dX5_copyFrom_165 (by decide) ?_
  refine sp_iconst (v := 4) dX5_copyFrom_166 (by decide) ?_
  obtain ⟨M13, hM13, h⟩ := sp_do_e h
  refine sp_copy2 dX5_copyFrom_167 tw_855 tw_837 tw_836 tw_116 hG (rmA_10 hs ho1) (rmA_10 hs ho0) (by decide) (by decide) (by decide) (show (0 : Int32).toNatClampNeg = 0 by decide) (show (0 : Int32).toNatClampNeg = 0 by decide) (show (4 : Int32).toNatClampNeg = 4 by decide) (by rw [(rmN_10 hs ho1)]; decide) (by rw [(rmN_10 hs ho0)]; decide) (by decide) (Nat.le_of_ble_eq_true rfl) hM13 ?_
  refine sp_iconst (v := 0) dX5_copyFrom_170 (by decide) ?_
  refine sp_istore_n [some (.ref o0), some (.ref o1), some (.int 0)] dX5_copyFrom_171 rfl (by decide) rfl ?_
  refine sp_weak [true, true, true] [some (.ref o0), some (.ref o1), some (.int 0)] rfl ?_
  refine tX5_copyFrom_l172 hG ho0 ho1 hQ (fun M18 h => ?_) F _ _ h
  refine sp_aload_n dX5_copyFrom_196 rfl rfl ?_
  refine sp_aload_n dX5_copyFrom_197 rfl rfl ?_
  refine sp_use (fun ho => ?_)
  have hs := hG.1 _ ho
  refine sp_getI (RX5, TX5, 16) dX5_copyFrom_198 clX5 (j := 14) (by decide) tw_216 (rmI hs ho1) (Or.inl rfl) ?_
  obtain ⟨M19, hM19, h⟩ := sp_do_e h
  refine sp_putI2 (RX5, TX5, 16) hG dX5_copyFrom_201 clX5 (j := 14) (by decide) tw_216 rfl (Or.inl rfl) (rmI hs ho0) hM19 ?_
  refine sp_aload_n dX5_copyFrom_204 rfl rfl ?_
  refine sp_aload_n dX5_copyFrom_205 rfl rfl ?_
  refine sp_use (fun ho => ?_)
  have hs := hG.1 _ ho
  refine sp_getI (RX5, TX5, 16) dX5_copyFrom_206 clX5 (j := 15) (by decide) tw_218 (rmI hs ho1) (Or.inl rfl) ?_
  obtain ⟨M20, hM20, h⟩ := sp_do_e h
  refine sp_putI2 (RX5, TX5, 16) hG dX5_copyFrom_209 clX5 (j := 15) (by decide) tw_218 rfl (Or.inl rfl) (rmI hs ho0) hM20 ?_
  cases h
  exact sp_vret dX5_copyFrom_212 rfl (fun _ => hQ)
def fX5_hasSpark (M0 : sp_Mem) (o0 : Nat) (a1 : Int32) : Int32 :=
  if a1 < 0 then (0) else ((if (sp_I M0 o0 4) ≤ a1 then 0 else 1))
set_option maxRecDepth 100000 in
set_option maxHeartbeats 4000000 in
theorem tX5_hasSpark {g : sp_G} {Ω : sp_Mem → Prop} {Q : sp_Qt} {M0 : sp_Mem} {p : Int32} (hG : sp_Ok Ω) {o0 : Nat} (ho0 : sp_room o0) {a1 : Int32} (h : fX5_hasSpark M0 o0 a1 = p) (hQ : Q (some (.int p)) M0) : sp_Mt g Ω mX5_hasSpark 0 0 [.ref o0, .int a1] M0 Q := by
  unfold fX5_hasSpark at h
  refine sp_Mt.of [some (.ref o0), some (.int a1)] (by decide) (by simp [sp_ent, Value.category]) rfl ?_
  refine sp_iload_n dX5_hasSpark_0 rfl rfl ?_
  refine sp_if_lt (tgt := 16) dX5_hasSpark_1 (by decide) (fun hc1 => ?_) (fun hc1 => ?_)
  · have h := (if_pos hc1).symm.trans h
    refine sp_iconst (v := 0) dX5_hasSpark_16 (by decide) ?_
    cases h
    exact sp_iret dX5_hasSpark_17 (ty := .boolean) rfl (sp_nz (Or.inl rfl)) (fun _ => hQ)
  · have h := (if_neg hc1).symm.trans h
    refine sp_iload_n dX5_hasSpark_4 rfl rfl ?_
    refine sp_aload_n dX5_hasSpark_5 rfl rfl ?_
    refine sp_use (fun ho => ?_)
    have hs := hG.1 _ ho
    refine sp_getI (RX5, TX5, 16) dX5_hasSpark_6 clX5 (j := 4) (by decide) tw_184 (rmI hs ho0) (Or.inl rfl) ?_
    suffices hj : sp_Wp g Ω mX5_hasSpark 0 0 17 [none, none] [.int (if (sp_I M0 o0 4) ≤ a1 then 0 else 1)] M0 Q by
      refine sp_icmp_ge (tgt := 16) dX5_hasSpark_9 (by decide) (fun hc2 => ?_) (fun hc2 => ?_)
      · refine sp_iconst (v := 0) dX5_hasSpark_16 (by decide) ?_
        refine sp_weak [false, false] [none, none] rfl ?_
        simp only [if_pos hc2] at hj
        exact hj
      · refine sp_iconst (v := 1) dX5_hasSpark_12 (by decide) ?_
        refine sp_goto (tgt := 17) dX5_hasSpark_13 (by decide) ?_
        refine sp_weak [false, false] [none, none] rfl ?_
        simp only [if_neg hc2] at hj
        exact hj
    cases h
    exact sp_iret dX5_hasSpark_17 (ty := .boolean) rfl (sp_nz (by repeat (first | exact Or.inl rfl | exact Or.inr rfl | split))) (fun _ => hQ)
theorem bX5_hasSpark (M0 : sp_Mem) (o0 : Nat) (a1 : Int32) : fX5_hasSpark M0 o0 a1 = 0 ∨ fX5_hasSpark M0 o0 a1 = 1 := by
  unfold fX5_hasSpark
  repeat (first | exact Or.inl rfl | exact Or.inr rfl | split)
def fX5_hasLoose (M0 : sp_Mem) (o0 : Nat) (a1 : Int32) : Option Int32 :=
  if (fX5_hasSpark M0 o0 a1) = 0 then (some 0) else ((sp_ix 6 a1).bind fun j2 => some (if (sp_I M0 (o0 + 2) j2) = (-1) then 0 else 1))
set_option maxRecDepth 100000 in
set_option maxHeartbeats 4000000 in
theorem tX5_hasLoose {g : sp_G} {Ω : sp_Mem → Prop} {Q : sp_Qt} {M0 : sp_Mem} {p : Int32} (hG : sp_Ok Ω) {o0 : Nat} (ho0 : sp_room o0) {a1 : Int32} (h : fX5_hasLoose M0 o0 a1 = some p) (hQ : Q (some (.int p)) M0) : sp_Mt g Ω mX5_hasLoose 0 0 [.ref o0, .int a1] M0 Q := by
  unfold fX5_hasLoose at h
  refine sp_Mt.of [some (.ref o0), some (.int a1)] (by decide) (by simp [sp_ent, Value.category]) rfl ?_
  refine sp_aload_n dX5_hasLoose_0 rfl rfl ?_
  refine sp_iload_n dX5_hasLoose_1 rfl rfl ?_
  refine sp_use (fun ho => ?_)
  have hs := hG.1 _ ho
  refine sp_cV (M1 := M0) (r := some (.int (fX5_hasSpark M0 o0 a1))) (o := o0) (st := []) (c := 4) (RX5, TX5, 16) [.int a1] [.int a1, .ref o0] [.int (fX5_hasSpark M0 o0 a1)] dX5_hasLoose_2 okX5_hasSpark tw_586 tw_495 tw_496 (by decide) (by decide) rfl (Nat.le_of_ble_eq_true rfl) rfl rfl rfl rfl (rmI hs ho0) (fun Q hQ => tX5_hasSpark hG ho0 rfl hQ) ?_
  refine sp_if_eq (tgt := 22) dX5_hasLoose_5 (by decide) (fun hc1 => ?_) (fun hc1 => ?_)
  · have h := (if_pos hc1).symm.trans h
    refine sp_iconst (v := 0) dX5_hasLoose_22 (by decide) ?_
    cases h
    exact sp_iret dX5_hasLoose_23 (ty := .boolean) rfl (sp_nz (Or.inl rfl)) (fun _ => hQ)
  · have h := (if_neg hc1).symm.trans h
    refine sp_aload_n dX5_hasLoose_8 rfl rfl ?_
    refine sp_getR (RX5, TX5, 16) dX5_hasLoose_9 clX5 (j := 1) (by decide) tw_169 (rmI hs ho0) (Or.inr ⟨_, rfl⟩) (rmP_1 hs ho0) ?_
    refine sp_iload_n dX5_hasLoose_12 rfl rfl ?_
    obtain ⟨j2, hj2, h⟩ := Option.bind_eq_some_iff.mp h
    refine sp_iald2 (j := j2) dX5_hasLoose_13 (rmA_2 hs ho0) (rmN_2 hs ho0) hj2 ?_
    refine sp_iconst (v := (-1)) dX5_hasLoose_14 (by decide) ?_
    suffices hj : sp_Wp g Ω mX5_hasLoose 0 0 23 [none, none] [.int (if (sp_I M0 (o0 + 2) j2) = (-1) then 0 else 1)] M0 Q by
      refine sp_icmp_eq (tgt := 22) dX5_hasLoose_15 (by decide) (fun hc3 => ?_) (fun hc3 => ?_)
      · refine sp_iconst (v := 0) dX5_hasLoose_22 (by decide) ?_
        refine sp_weak [false, false] [none, none] rfl ?_
        simp only [if_pos hc3] at hj
        exact hj
      · refine sp_iconst (v := 1) dX5_hasLoose_18 (by decide) ?_
        refine sp_goto (tgt := 23) dX5_hasLoose_19 (by decide) ?_
        refine sp_weak [false, false] [none, none] rfl ?_
        simp only [if_neg hc3] at hj
        exact hj
    cases h
    exact sp_iret dX5_hasLoose_23 (ty := .boolean) rfl (sp_nz (by repeat (first | exact Or.inl rfl | exact Or.inr rfl | split))) (fun _ => hQ)
def fX5_hasLaw (M0 : sp_Mem) (o0 : Nat) (a1 : Int32) : Int32 :=
  if a1 < 0 then (0) else ((if (sp_I M0 o0 14) ≤ a1 then 0 else 1))
set_option maxRecDepth 100000 in
set_option maxHeartbeats 4000000 in
theorem tX5_hasLaw {g : sp_G} {Ω : sp_Mem → Prop} {Q : sp_Qt} {M0 : sp_Mem} {p : Int32} (hG : sp_Ok Ω) {o0 : Nat} (ho0 : sp_room o0) {a1 : Int32} (h : fX5_hasLaw M0 o0 a1 = p) (hQ : Q (some (.int p)) M0) : sp_Mt g Ω mX5_hasLaw 0 0 [.ref o0, .int a1] M0 Q := by
  unfold fX5_hasLaw at h
  refine sp_Mt.of [some (.ref o0), some (.int a1)] (by decide) (by simp [sp_ent, Value.category]) rfl ?_
  refine sp_iload_n dX5_hasLaw_0 rfl rfl ?_
  refine sp_if_lt (tgt := 16) dX5_hasLaw_1 (by decide) (fun hc1 => ?_) (fun hc1 => ?_)
  · have h := (if_pos hc1).symm.trans h
    refine sp_iconst (v := 0) dX5_hasLaw_16 (by decide) ?_
    cases h
    exact sp_iret dX5_hasLaw_17 (ty := .boolean) rfl (sp_nz (Or.inl rfl)) (fun _ => hQ)
  · have h := (if_neg hc1).symm.trans h
    refine sp_iload_n dX5_hasLaw_4 rfl rfl ?_
    refine sp_aload_n dX5_hasLaw_5 rfl rfl ?_
    refine sp_use (fun ho => ?_)
    have hs := hG.1 _ ho
    refine sp_getI (RX5, TX5, 16) dX5_hasLaw_6 clX5 (j := 14) (by decide) tw_216 (rmI hs ho0) (Or.inl rfl) ?_
    suffices hj : sp_Wp g Ω mX5_hasLaw 0 0 17 [none, none] [.int (if (sp_I M0 o0 14) ≤ a1 then 0 else 1)] M0 Q by
      refine sp_icmp_ge (tgt := 16) dX5_hasLaw_9 (by decide) (fun hc2 => ?_) (fun hc2 => ?_)
      · refine sp_iconst (v := 0) dX5_hasLaw_16 (by decide) ?_
        refine sp_weak [false, false] [none, none] rfl ?_
        simp only [if_pos hc2] at hj
        exact hj
      · refine sp_iconst (v := 1) dX5_hasLaw_12 (by decide) ?_
        refine sp_goto (tgt := 17) dX5_hasLaw_13 (by decide) ?_
        refine sp_weak [false, false] [none, none] rfl ?_
        simp only [if_neg hc2] at hj
        exact hj
    cases h
    exact sp_iret dX5_hasLaw_17 (ty := .boolean) rfl (sp_nz (by repeat (first | exact Or.inl rfl | exact Or.inr rfl | split))) (fun _ => hQ)
theorem bX5_hasLaw (M0 : sp_Mem) (o0 : Nat) (a1 : Int32) : fX5_hasLaw M0 o0 a1 = 0 ∨ fX5_hasLaw M0 o0 a1 = 1 := by
  unfold fX5_hasLaw
  repeat (first | exact Or.inl rfl | exact Or.inr rfl | split)
def fX5_textInForce (M0 : sp_Mem) (o0 : Nat) : Option (Option Nat) :=
  if (fX5_hasLaw M0 o0 (sp_I M0 o0 15)) = 0 then (some none) else ((sp_ix 6 (sp_I M0 o0 15)).bind fun j2 => some (sp_P M0 (o0 + 11) j2))
set_option maxRecDepth 100000 in
set_option maxHeartbeats 4000000 in
theorem tX5_textInForce {g : sp_G} {Ω : sp_Mem → Prop} {Q : sp_Qt} {M0 : sp_Mem} {p : (Option Nat)} (hG : sp_Ok Ω) {o0 : Nat} (ho0 : sp_room o0) (h : fX5_textInForce M0 o0 = some p) (hQ : Q (some (va_rf p)) M0) : sp_Mt g Ω mX5_textInForce 0 0 [.ref o0] M0 Q := by
  unfold fX5_textInForce at h
  refine sp_Mt.of [some (.ref o0)] (by decide) (by simp [sp_ent, Value.category]) rfl ?_
  refine sp_aload_n dX5_textInForce_0 rfl rfl ?_
  refine sp_aload_n dX5_textInForce_1 rfl rfl ?_
  refine sp_use (fun ho => ?_)
  have hs := hG.1 _ ho
  refine sp_getI (RX5, TX5, 16) dX5_textInForce_2 clX5 (j := 15) (by decide) tw_218 (rmI hs ho0) (Or.inl rfl) ?_
  refine sp_cV (M1 := M0) (r := some (.int (fX5_hasLaw M0 o0 (sp_I M0 o0 15)))) (o := o0) (st := []) (c := 4) (RX5, TX5, 16) [.int (sp_I M0 o0 15)] [.int (sp_I M0 o0 15), .ref o0] [.int (fX5_hasLaw M0 o0 (sp_I M0 o0 15))] dX5_textInForce_5 okX5_hasLaw tw_510 tw_511 tw_512 (by decide) (by decide) rfl (Nat.le_of_ble_eq_true rfl) rfl rfl rfl rfl (rmI hs ho0) (fun Q hQ => tX5_hasLaw hG ho0 rfl hQ) ?_
  refine sp_if_eq (tgt := 23) dX5_textInForce_8 (by decide) (fun hc1 => ?_) (fun hc1 => ?_)
  · have h := (if_pos hc1).symm.trans h
    refine sp_null dX5_textInForce_23 ?_
    cases h
    exact sp_aret (r := none) dX5_textInForce_24 rfl (Or.inl ⟨_, rfl⟩) (fun _ => hQ)
  · have h := (if_neg hc1).symm.trans h
    refine sp_aload_n dX5_textInForce_11 rfl rfl ?_
    refine sp_getR (RX5, TX5, 16) dX5_textInForce_12 clX5 (j := 13) (by decide) tw_215 (rmI hs ho0) (Or.inr ⟨_, rfl⟩) (rmP_13 hs ho0) ?_
    refine sp_aload_n dX5_textInForce_15 rfl rfl ?_
    refine sp_getI (RX5, TX5, 16) dX5_textInForce_16 clX5 (j := 15) (by decide) tw_218 (rmI hs ho0) (Or.inl rfl) ?_
    obtain ⟨j2, hj2, h⟩ := Option.bind_eq_some_iff.mp h
    refine sp_aald2 (j := j2) 4 (by decide) dX5_textInForce_19 (rmA_11 hs ho0) (rmN_11 hs ho0) hj2 ?_
    refine sp_goto (tgt := 24) dX5_textInForce_20 (by decide) ?_
    cases h
    exact sp_aret (r := (sp_P M0 (o0 + 11) j2)) dX5_textInForce_24 rfl (Or.inl ⟨_, rfl⟩) (fun _ => hQ)
theorem textInForce_text {M : sp_Mem} {o t : Nat} (hs : sp_WS M) (ho : sp_room o) (h : fX5_textInForce M o = some (some t)) : sp_text M t := by
  unfold fX5_textInForce at h
  split at h
  · cases h
  · obtain ⟨j, hj, h⟩ := Option.bind_eq_some_iff.mp h
    exact rm_text hs ho (Option.some.inj h)
def fX10_isCell (a0 : Int32) : Int32 :=
  (if a0 < 0 then 0 else (if 25 ≤ a0 then 0 else 1))
set_option maxRecDepth 100000 in
set_option maxHeartbeats 4000000 in
theorem tX10_isCell {g : sp_G} {Ω : sp_Mem → Prop} {Q : sp_Qt} {M0 : sp_Mem} {p : Int32} (hG : sp_Ok Ω) {a0 : Int32} (h : fX10_isCell a0 = p) (hQ : Q (some (.int p)) M0) : sp_Mt g Ω mX10_isCell 0 0 [.int a0] M0 Q := by
  unfold fX10_isCell at h
  refine sp_Mt.of [some (.int a0)] (by decide) (by simp [sp_ent, Value.category]) rfl ?_
  refine sp_iload_n dX10_isCell_0 rfl rfl ?_
  suffices hj : sp_Wp g Ω mX10_isCell 0 0 15 [none] [.int (if a0 < 0 then 0 else (if 25 ≤ a0 then 0 else 1))] M0 Q by
    refine sp_if_lt (tgt := 14) dX10_isCell_1 (by decide) (fun hc1 => ?_) (fun hc1 => ?_)
    · refine sp_iconst (v := 0) dX10_isCell_14 (by decide) ?_
      refine sp_weak [false] [none] rfl ?_
      simp only [if_pos hc1] at hj
      exact hj
    · refine sp_iload_n dX10_isCell_4 rfl rfl ?_
      refine sp_bipush (v := 25) dX10_isCell_5 (by decide) ?_
      refine sp_icmp_ge (tgt := 14) dX10_isCell_7 (by decide) (fun hc2 => ?_) (fun hc2 => ?_)
      · refine sp_iconst (v := 0) dX10_isCell_14 (by decide) ?_
        refine sp_weak [false] [none] rfl ?_
        simp only [if_neg hc1, if_pos hc2] at hj
        exact hj
      · refine sp_iconst (v := 1) dX10_isCell_10 (by decide) ?_
        refine sp_goto (tgt := 15) dX10_isCell_11 (by decide) ?_
        refine sp_weak [false] [none] rfl ?_
        simp only [if_neg hc1, if_neg hc2] at hj
        exact hj
  cases h
  exact sp_iret dX10_isCell_15 (ty := .boolean) rfl (sp_nz (by repeat (first | exact Or.inl rfl | exact Or.inr rfl | split))) (fun _ => hQ)
theorem bX10_isCell (a0 : Int32) : fX10_isCell a0 = 0 ∨ fX10_isCell a0 = 1 := by
  unfold fX10_isCell
  repeat (first | exact Or.inl rfl | exact Or.inr rfl | split)
def fX10_farApart_j26 (a3 : Int32) (s0 : Int32) : Option Int32 :=
  some (s0 + (if 0 ≤ a3 then a3 else (-a3)))
def fX10_farApart (a0 : Int32) (a1 : Int32) : Option Int32 :=
  sp_do (((a0 - a0 / 5 * 5) - (a1 - a1 / 5 * 5))) fun u1 => sp_do (((a0 / 5) - (a1 / 5))) fun u2 => fX10_farApart_j26 u2 (if 0 ≤ u1 then u1 else (-u1))
set_option maxRecDepth 100000 in
set_option maxHeartbeats 4000000 in
theorem tX10_farApart_j26 {g : sp_G} {Ω : sp_Mem → Prop} {Q : sp_Qt} {M0 : sp_Mem} {p : Int32} (hG : sp_Ok Ω)  (hQ : Q (some (.int p)) M0) (a3 : Int32) (s0 : Int32) (h : fX10_farApart_j26 a3 s0 = some p) : sp_Wp g Ω mX10_farApart 0 0 26 [none, none, none, some (.int a3)] [.int s0] M0 Q := by
  unfold fX10_farApart_j26 at h
  refine sp_iload_n dX10_farApart_26 rfl rfl ?_
  suffices hj : sp_Wp g Ω mX10_farApart 0 0 36 [none, none, none, none] [.int (if 0 ≤ a3 then a3 else (-a3)), .int s0] M0 Q by
    refine sp_if_ge (tgt := 35) dX10_farApart_27 (by decide) (fun hc4 => ?_) (fun hc4 => ?_)
    · refine sp_iload_n dX10_farApart_35 rfl rfl ?_
      refine sp_weak [false, false, false, false] [none, none, none, none] rfl ?_
      simp only [if_pos hc4] at hj
      exact hj
    · refine sp_iload_n dX10_farApart_30 rfl rfl ?_
      refine sp_ineg dX10_farApart_31 ?_
      refine sp_goto (tgt := 36) dX10_farApart_32 (by decide) ?_
      refine sp_weak [false, false, false, false] [none, none, none, none] rfl ?_
      simp only [if_neg hc4] at hj
      exact hj
  refine sp_iadd dX10_farApart_36 ?_
  cases h
  exact sp_iret dX10_farApart_37 (ty := .int) rfl rfl (fun _ => hQ)
set_option maxRecDepth 100000 in
set_option maxHeartbeats 4000000 in
theorem tX10_farApart {g : sp_G} {Ω : sp_Mem → Prop} {Q : sp_Qt} {M0 : sp_Mem} {p : Int32} (hG : sp_Ok Ω) {a0 : Int32} {a1 : Int32} (h : fX10_farApart a0 a1 = some p) (hQ : Q (some (.int p)) M0) : sp_Mt g Ω mX10_farApart 0 0 [.int a0, .int a1] M0 Q := by
  unfold fX10_farApart at h
  refine sp_Mt.of [some (.int a0), some (.int a1), none, none] (by decide) (by simp [sp_ent, Value.category]) rfl ?_
  refine sp_iload_n dX10_farApart_0 rfl rfl ?_
  refine sp_iconst (v := 5) dX10_farApart_1 (by decide) ?_
  refine sp_irem dX10_farApart_2 (by decide) ?_
  refine sp_iload_n dX10_farApart_3 rfl rfl ?_
  refine sp_iconst (v := 5) dX10_farApart_4 (by decide) ?_
  refine sp_irem dX10_farApart_5 (by decide) ?_
  refine sp_isub dX10_farApart_6 ?_
  obtain ⟨u1, hu1, h⟩ := sp_do_e h
  refine sp_topi hu1 ?_
  refine sp_istore_n [some (.int a0), some (.int a1), some (.int u1), none] dX10_farApart_7 rfl (by decide) rfl ?_
  refine sp_iload_n dX10_farApart_8 rfl rfl ?_
  refine sp_iconst (v := 5) dX10_farApart_9 (by decide) ?_
  refine sp_idiv dX10_farApart_10 (by decide) ?_
  refine sp_iload_n dX10_farApart_11 rfl rfl ?_
  refine sp_iconst (v := 5) dX10_farApart_12 (by decide) ?_
  refine sp_idiv dX10_farApart_13 (by decide) ?_
  refine sp_isub dX10_farApart_14 ?_
  obtain ⟨u2, hu2, h⟩ := sp_do_e h
  refine sp_topi hu2 ?_
  refine sp_istore_n [some (.int a0), some (.int a1), some (.int u1), some (.int u2)] dX10_farApart_15 rfl (by decide) rfl ?_
  refine sp_iload_n dX10_farApart_16 rfl rfl ?_
  suffices hj : sp_Wp g Ω mX10_farApart 0 0 26 [none, none, none, some (.int u2)] [.int (if 0 ≤ u1 then u1 else (-u1))] M0 Q by
    refine sp_if_ge (tgt := 25) dX10_farApart_17 (by decide) (fun hc3 => ?_) (fun hc3 => ?_)
    · refine sp_iload_n dX10_farApart_25 rfl rfl ?_
      refine sp_weak [false, false, false, true] [none, none, none, some (.int u2)] rfl ?_
      simp only [if_pos hc3] at hj
      exact hj
    · refine sp_iload_n dX10_farApart_20 rfl rfl ?_
      refine sp_ineg dX10_farApart_21 ?_
      refine sp_goto (tgt := 26) dX10_farApart_22 (by decide) ?_
      refine sp_weak [false, false, false, true] [none, none, none, some (.int u2)] rfl ?_
      simp only [if_neg hc3] at hj
      exact hj
  refine sp_weak [false, false, false, true] [none, none, none, some (.int u2)] rfl ?_
  exact tX10_farApart_j26 hG hQ _ _ h
def fX6_lookAt (M : sp_Mem) (o1 : Nat) (a2 : Int32) (a3 : Int32) (a4 : Int32) : Option sp_Mem :=
  if (fX5_hasSpark M o1 a2) = 0 then (some M) else (if (fX10_isCell a3) = 0 then (some M) else (sp_do (sp_setI M 4 0 a2) fun M3 => (sp_ix 6 a2).bind fun j4 => sp_do (sp_setI M3 4 1 (sp_I M3 (o1 + 3) j4)) fun M5 => (sp_ix 6 a2).bind fun j6 => sp_do (sp_setI M5 4 2 (sp_I M5 (o1 + 4) j6)) fun M7 => sp_do (sp_setI M7 4 3 (a3 - a3 / 5 * 5)) fun M8 => sp_do (sp_setI M8 4 4 (a3 / 5)) fun M9 => (sp_ix 25 a3).bind fun j10 => sp_do (sp_setI M9 4 5 (sp_I M9 (o1 + 1) j10)) fun M11 => (fX10_farApart a3 (sp_I M11 (o1 + 10) 3)).bind fun v12 => sp_do (sp_setI M11 4 6 v12) fun M13 => sp_do (sp_setI M13 4 7 a4) fun M14 => sp_do (sp_setI M14 4 8 (sp_I M14 (o1 + 10) 0)) fun M15 => sp_do (sp_setI M15 4 9 (sp_I M15 (o1 + 10) 2)) fun M16 => some M16))
set_option maxRecDepth 100000 in
set_option maxHeartbeats 4000000 in
theorem tX6_lookAt {g : sp_G} {Ω : sp_Mem → Prop} {Q : sp_Qt} {p : sp_Mem} (hG : sp_Ok Ω) {o1 : Nat} (ho1 : sp_room o1) {M : sp_Mem} {a2 : Int32} {a3 : Int32} {a4 : Int32} (h : fX6_lookAt M o1 a2 a3 a4 = some p) (hQ : Q none p) : sp_Mt g Ω mX6_lookAt 0 0 [.ref 1, .ref o1, .int a2, .int a3, .int a4] M Q := by
  unfold fX6_lookAt at h
  refine sp_Mt.of [some (.ref 1), some (.ref o1), some (.int a2), some (.int a3), some (.int a4)] (by decide) (by simp [sp_ent, Value.category]) rfl ?_
  refine sp_aload_n dX6_lookAt_0 rfl rfl ?_
  refine sp_iload_n dX6_lookAt_1 rfl rfl ?_
  refine sp_use (fun ho => ?_)
  have hs := hG.1 _ ho
  refine sp_cV (M1 := M) (r := some (.int (fX5_hasSpark M o1 a2))) (o := o1) (st := []) (c := 4) (RX5, TX5, 16) [.int a2] [.int a2, .ref o1] [.int (fX5_hasSpark M o1 a2)] dX6_lookAt_2 okX5_hasSpark tw_520 tw_495 tw_496 (by decide) (by decide) rfl (Nat.le_of_ble_eq_true rfl) rfl rfl rfl rfl (rmI hs ho1) (fun Q hQ => tX5_hasSpark hG ho1 rfl hQ) ?_
  refine sp_if_eq (tgt := 15) dX6_lookAt_5 (by decide) (fun hc1 => ?_) (fun hc1 => ?_)
  · have h := (if_pos hc1).symm.trans h
    cases h
    exact sp_vret dX6_lookAt_15 rfl (fun _ => hQ)
  · have h := (if_neg hc1).symm.trans h
    refine sp_iload_n dX6_lookAt_8 rfl rfl ?_
    refine sp_cSN (M1 := M) (r := some (.int (fX10_isCell a3))) (st := []) [.int a3] [.int a3] [.int (fX10_isCell a3)] dX6_lookAt_9 okX10_isCell (by decide +kernel) tw_469 (by decide) (by decide) rfl (Nat.le_of_ble_eq_true rfl) rfl rfl (fun Q hQ => tX10_isCell hG rfl hQ) ?_
    refine sp_if_ne (tgt := 16) dX6_lookAt_12 (by decide) (fun hc2 => ?_) (fun hc2 => ?_)
    · have h := (if_neg hc2).symm.trans h
      refine sp_aload_n dX6_lookAt_16 rfl rfl ?_
      refine sp_getR (RX6, TX6, 2) dX6_lookAt_17 clX6 (j := 1) (by decide) tw_145 (wsI_1 hs) (Or.inr ⟨_, rfl⟩) (wsP_1_1 hs) ?_
      refine sp_iconst (v := 0) dX6_lookAt_20 (by decide) ?_
      refine sp_iload_n dX6_lookAt_21 rfl rfl ?_
      obtain ⟨M3, hM3, h⟩ := sp_do_e h
      refine sp_iast2 (j := 0) hG dX6_lookAt_22 (wsA_4 hs) (wsN_4 hs) rfl hM3 ?_
      refine sp_aload_n dX6_lookAt_23 rfl rfl ?_
      refine sp_use (fun ho => ?_)
      have hs := hG.1 _ ho
      refine sp_getR (RX6, TX6, 2) dX6_lookAt_24 clX6 (j := 1) (by decide) tw_145 (wsI_1 hs) (Or.inr ⟨_, rfl⟩) (wsP_1_1 hs) ?_
      refine sp_iconst (v := 1) dX6_lookAt_27 (by decide) ?_
      refine sp_aload_n dX6_lookAt_28 rfl rfl ?_
      refine sp_getR (RX5, TX5, 16) dX6_lookAt_29 clX5 (j := 2) (by decide) tw_178 (rmI hs ho1) (Or.inr ⟨_, rfl⟩) (rmP_2 hs ho1) ?_
      refine sp_iload_n dX6_lookAt_32 rfl rfl ?_
      obtain ⟨j4, hj4, h⟩ := Option.bind_eq_some_iff.mp h
      refine sp_iald2 (j := j4) dX6_lookAt_33 (rmA_3 hs ho1) (rmN_3 hs ho1) hj4 ?_
      obtain ⟨M5, hM5, h⟩ := sp_do_e h
      refine sp_iast2 (j := 1) hG dX6_lookAt_34 (wsA_4 hs) (wsN_4 hs) rfl hM5 ?_
      refine sp_aload_n dX6_lookAt_35 rfl rfl ?_
      refine sp_use (fun ho => ?_)
      have hs := hG.1 _ ho
      refine sp_getR (RX6, TX6, 2) dX6_lookAt_36 clX6 (j := 1) (by decide) tw_145 (wsI_1 hs) (Or.inr ⟨_, rfl⟩) (wsP_1_1 hs) ?_
      refine sp_iconst (v := 2) dX6_lookAt_39 (by decide) ?_
      refine sp_aload_n dX6_lookAt_40 rfl rfl ?_
      refine sp_getR (RX5, TX5, 16) dX6_lookAt_41 clX5 (j := 3) (by decide) tw_182 (rmI hs ho1) (Or.inr ⟨_, rfl⟩) (rmP_3 hs ho1) ?_
      refine sp_iload_n dX6_lookAt_44 rfl rfl ?_
      obtain ⟨j6, hj6, h⟩ := Option.bind_eq_some_iff.mp h
      refine sp_iald2 (j := j6) dX6_lookAt_45 (rmA_4 hs ho1) (rmN_4 hs ho1) hj6 ?_
      obtain ⟨M7, hM7, h⟩ := sp_do_e h
      refine sp_iast2 (j := 2) hG dX6_lookAt_46 (wsA_4 hs) (wsN_4 hs) rfl hM7 ?_
      refine sp_aload_n dX6_lookAt_47 rfl rfl ?_
      refine sp_use (fun ho => ?_)
      have hs := hG.1 _ ho
      refine sp_getR (RX6, TX6, 2) dX6_lookAt_48 clX6 (j := 1) (by decide) tw_145 (wsI_1 hs) (Or.inr ⟨_, rfl⟩) (wsP_1_1 hs) ?_
      refine sp_iconst (v := 3) dX6_lookAt_51 (by decide) ?_
      refine sp_iload_n dX6_lookAt_52 rfl rfl ?_
      refine sp_iconst (v := 5) dX6_lookAt_53 (by decide) ?_
      refine sp_irem dX6_lookAt_54 (by decide) ?_
      obtain ⟨M8, hM8, h⟩ := sp_do_e h
      refine sp_iast2 (j := 3) hG dX6_lookAt_55 (wsA_4 hs) (wsN_4 hs) rfl hM8 ?_
      refine sp_aload_n dX6_lookAt_56 rfl rfl ?_
      refine sp_use (fun ho => ?_)
      have hs := hG.1 _ ho
      refine sp_getR (RX6, TX6, 2) dX6_lookAt_57 clX6 (j := 1) (by decide) tw_145 (wsI_1 hs) (Or.inr ⟨_, rfl⟩) (wsP_1_1 hs) ?_
      refine sp_iconst (v := 4) dX6_lookAt_60 (by decide) ?_
      refine sp_iload_n dX6_lookAt_61 rfl rfl ?_
      refine sp_iconst (v := 5) dX6_lookAt_62 (by decide) ?_
      refine sp_idiv dX6_lookAt_63 (by decide) ?_
      obtain ⟨M9, hM9, h⟩ := sp_do_e h
      refine sp_iast2 (j := 4) hG dX6_lookAt_64 (wsA_4 hs) (wsN_4 hs) rfl hM9 ?_
      refine sp_aload_n dX6_lookAt_65 rfl rfl ?_
      refine sp_use (fun ho => ?_)
      have hs := hG.1 _ ho
      refine sp_getR (RX6, TX6, 2) dX6_lookAt_66 clX6 (j := 1) (by decide) tw_145 (wsI_1 hs) (Or.inr ⟨_, rfl⟩) (wsP_1_1 hs) ?_
      refine sp_iconst (v := 5) dX6_lookAt_69 (by decide) ?_
      refine sp_aload_n dX6_lookAt_70 rfl rfl ?_
      refine sp_getR (RX5, TX5, 16) dX6_lookAt_71 clX5 (j := 0) (by decide) tw_167 (rmI hs ho1) (Or.inr ⟨_, rfl⟩) (rmP_0 hs ho1) ?_
      refine sp_iload_n dX6_lookAt_74 rfl rfl ?_
      obtain ⟨j10, hj10, h⟩ := Option.bind_eq_some_iff.mp h
      refine sp_iald2 (j := j10) dX6_lookAt_75 (rmA_1 hs ho1) (rmN_1 hs ho1) hj10 ?_
      obtain ⟨M11, hM11, h⟩ := sp_do_e h
      refine sp_iast2 (j := 5) hG dX6_lookAt_76 (wsA_4 hs) (wsN_4 hs) rfl hM11 ?_
      refine sp_aload_n dX6_lookAt_77 rfl rfl ?_
      refine sp_use (fun ho => ?_)
      have hs := hG.1 _ ho
      refine sp_getR (RX6, TX6, 2) dX6_lookAt_78 clX6 (j := 1) (by decide) tw_145 (wsI_1 hs) (Or.inr ⟨_, rfl⟩) (wsP_1_1 hs) ?_
      refine sp_bipush (v := 6) dX6_lookAt_81 (by decide) ?_
      refine sp_iload_n dX6_lookAt_83 rfl rfl ?_
      refine sp_aload_n dX6_lookAt_84 rfl rfl ?_
      refine sp_getR (RX5, TX5, 16) dX6_lookAt_85 clX5 (j := 12) (by decide) tw_211 (rmI hs ho1) (Or.inr ⟨_, rfl⟩) (rmP_12 hs ho1) ?_
      refine sp_iconst (v := 3) dX6_lookAt_88 (by decide) ?_
      refine sp_iald2 (j := 3) dX6_lookAt_89 (rmA_10 hs ho1) (rmN_10 hs ho1) rfl ?_
      obtain ⟨v12, hv12, h⟩ := Option.bind_eq_some_iff.mp h
      refine sp_cSN (M1 := M11) (r := some (.int v12)) (st := [.int 6, .ref 4]) [.int a3, .int (sp_I M11 (o1 + 10) 3)] [.int (sp_I M11 (o1 + 10) 3), .int a3, .int 6, .ref 4] [.int v12, .int 6, .ref 4] dX6_lookAt_90 okX10_farApart (by decide +kernel) tw_522 (by decide) (by decide) rfl (Nat.le_of_ble_eq_true rfl) rfl rfl (fun Q hQ => tX10_farApart hG hv12 hQ) ?_
      obtain ⟨M13, hM13, h⟩ := sp_do_e h
      refine sp_iast2 (j := 6) hG dX6_lookAt_93 (wsA_4 hs) (wsN_4 hs) rfl hM13 ?_
      refine sp_aload_n dX6_lookAt_94 rfl rfl ?_
      refine sp_use (fun ho => ?_)
      have hs := hG.1 _ ho
      refine sp_getR (RX6, TX6, 2) dX6_lookAt_95 clX6 (j := 1) (by decide) tw_145 (wsI_1 hs) (Or.inr ⟨_, rfl⟩) (wsP_1_1 hs) ?_
      refine sp_bipush (v := 7) dX6_lookAt_98 (by decide) ?_
      refine sp_iload dX6_lookAt_100 rfl ?_
      obtain ⟨M14, hM14, h⟩ := sp_do_e h
      refine sp_iast2 (j := 7) hG dX6_lookAt_102 (wsA_4 hs) (wsN_4 hs) rfl hM14 ?_
      refine sp_aload_n dX6_lookAt_103 rfl rfl ?_
      refine sp_use (fun ho => ?_)
      have hs := hG.1 _ ho
      refine sp_getR (RX6, TX6, 2) dX6_lookAt_104 clX6 (j := 1) (by decide) tw_145 (wsI_1 hs) (Or.inr ⟨_, rfl⟩) (wsP_1_1 hs) ?_
      refine sp_bipush (v := 8) dX6_lookAt_107 (by decide) ?_
      refine sp_aload_n dX6_lookAt_109 rfl rfl ?_
      refine sp_getR (RX5, TX5, 16) dX6_lookAt_110 clX5 (j := 12) (by decide) tw_211 (rmI hs ho1) (Or.inr ⟨_, rfl⟩) (rmP_12 hs ho1) ?_
      refine sp_iconst (v := 0) dX6_lookAt_113 (by decide) ?_
      refine sp_iald2 (j := 0) dX6_lookAt_114 (rmA_10 hs ho1) (rmN_10 hs ho1) rfl ?_
      obtain ⟨M15, hM15, h⟩ := sp_do_e h
      refine sp_iast2 (j := 8) hG dX6_lookAt_115 (wsA_4 hs) (wsN_4 hs) rfl hM15 ?_
      refine sp_aload_n dX6_lookAt_116 rfl rfl ?_
      refine sp_use (fun ho => ?_)
      have hs := hG.1 _ ho
      refine sp_getR (RX6, TX6, 2) dX6_lookAt_117 clX6 (j := 1) (by decide) tw_145 (wsI_1 hs) (Or.inr ⟨_, rfl⟩) (wsP_1_1 hs) ?_
      refine sp_bipush (v := 9) dX6_lookAt_120 (by decide) ?_
      refine sp_aload_n dX6_lookAt_122 rfl rfl ?_
      refine sp_getR (RX5, TX5, 16) dX6_lookAt_123 clX5 (j := 12) (by decide) tw_211 (rmI hs ho1) (Or.inr ⟨_, rfl⟩) (rmP_12 hs ho1) ?_
      refine sp_iconst (v := 2) dX6_lookAt_126 (by decide) ?_
      refine sp_iald2 (j := 2) dX6_lookAt_127 (rmA_10 hs ho1) (rmN_10 hs ho1) rfl ?_
      obtain ⟨M16, hM16, h⟩ := sp_do_e h
      refine sp_iast2 (j := 9) hG dX6_lookAt_128 (wsA_4 hs) (wsN_4 hs) rfl hM16 ?_
      cases h
      exact sp_vret dX6_lookAt_129 rfl (fun _ => hQ)
    · have h := (if_pos hc2).symm.trans h
      cases h
      exact sp_vret dX6_lookAt_15 rfl (fun _ => hQ)
def fX9_slot (M0 : sp_Mem) (o0 : Nat) (a1 : Int32) (a2 : Int32) : Option Int32 :=
  sp_do (((a1 * 5) + a2)) fun u1 => if u1 < 0 then (some (-1)) else (if (Int32.ofNat (sp_N M0 (o0 + 1))) ≤ u1 then (some (-1)) else ((sp_ix (sp_N M0 (o0 + 1)) u1).bind fun j4 => some (sp_I M0 (o0 + 1) j4)))
set_option maxRecDepth 100000 in
set_option maxHeartbeats 4000000 in
theorem tX9_slot {g : sp_G} {Ω : sp_Mem → Prop} {Q : sp_Qt} {M0 : sp_Mem} {p : Int32} (hG : sp_Ok Ω) {o0 : Nat} (ho0 : ∀ M, Ω M → sp_text M o0) {a1 : Int32} {a2 : Int32} (h : fX9_slot M0 o0 a1 a2 = some p) (hQ : Q (some (.int p)) M0) : sp_Mt g Ω mX9_slot 0 0 [.ref o0, .int a1, .int a2] M0 Q := by
  unfold fX9_slot at h
  refine sp_Mt.of [some (.ref o0), some (.int a1), some (.int a2), none] (by decide) (by simp [sp_ent, Value.category]) rfl ?_
  refine sp_iload_n dX9_slot_0 rfl rfl ?_
  refine sp_iconst (v := 5) dX9_slot_1 (by decide) ?_
  refine sp_imul dX9_slot_2 ?_
  refine sp_iload_n dX9_slot_3 rfl rfl ?_
  refine sp_iadd dX9_slot_4 ?_
  obtain ⟨u1, hu1, h⟩ := sp_do_e h
  refine sp_topi hu1 ?_
  refine sp_istore_n [some (.ref o0), some (.int a1), some (.int a2), some (.int u1)] dX9_slot_5 rfl (by decide) rfl ?_
  refine sp_iload_n dX9_slot_6 rfl rfl ?_
  refine sp_if_lt (tgt := 28) dX9_slot_7 (by decide) (fun hc2 => ?_) (fun hc2 => ?_)
  · have h := (if_pos hc2).symm.trans h
    refine sp_iconst (v := (-1)) dX9_slot_28 (by decide) ?_
    cases h
    exact sp_iret dX9_slot_29 (ty := .int) rfl rfl (fun _ => hQ)
  · have h := (if_neg hc2).symm.trans h
    refine sp_iload_n dX9_slot_10 rfl rfl ?_
    refine sp_aload_n dX9_slot_11 rfl rfl ?_
    refine sp_use (fun ho => ?_)
    have hs := hG.1 _ ho
    refine sp_getR (RX9, TX9, 4) dX9_slot_12 clX9 (j := 0) (by decide) tw_368 (ho0 _ ho).1 (Or.inr ⟨_, rfl⟩) (ho0 _ ho).2.1 ?_
    refine sp_alen 0 (by decide) dX9_slot_15 (ho0 _ ho).2.2.2.1 rfl ?_
    refine sp_icmp_ge (tgt := 28) dX9_slot_16 (by decide) (fun hc3 => ?_) (fun hc3 => ?_)
    · have h := (if_pos hc3).symm.trans h
      refine sp_iconst (v := (-1)) dX9_slot_28 (by decide) ?_
      cases h
      exact sp_iret dX9_slot_29 (ty := .int) rfl rfl (fun _ => hQ)
    · have h := (if_neg hc3).symm.trans h
      refine sp_aload_n dX9_slot_19 rfl rfl ?_
      refine sp_getR (RX9, TX9, 4) dX9_slot_20 clX9 (j := 0) (by decide) tw_368 (ho0 _ ho).1 (Or.inr ⟨_, rfl⟩) (ho0 _ ho).2.1 ?_
      refine sp_iload_n dX9_slot_23 rfl rfl ?_
      obtain ⟨j4, hj4, h⟩ := Option.bind_eq_some_iff.mp h
      refine sp_iald2 (j := j4) dX9_slot_24 (ho0 _ ho).2.2.2.1 rfl hj4 ?_
      refine sp_goto (tgt := 29) dX9_slot_25 (by decide) ?_
      cases h
      exact sp_iret dX9_slot_29 (ty := .int) rfl rfl (fun _ => hQ)
def fX6_toldBy_j145 (F : Nat) (o1 : Nat) (t : Nat) (kb : Int32 → Int32 → sp_Mem → Option (Int32 × sp_Mem)) (kx : sp_Mem → Option (Int32 × sp_Mem)) (a2 : Int32) (a7 : Int32) (s0 : Int32) (M : sp_Mem) : Option (Int32 × sp_Mem) :=
  if s0 = (-2000000000) then (kb a2 (a7 + (-1)) M) else (some (s0, M))
def fX6_toldBy_j108 (F : Nat) (o1 : Nat) (t : Nat) (kb : Int32 → Int32 → sp_Mem → Option (Int32 × sp_Mem)) (kx : sp_Mem → Option (Int32 × sp_Mem)) (a2 : Int32) (a7 : Int32) (a9 : Int32) (s0 : Int32) (M : sp_Mem) : Option (Int32 × sp_Mem) :=
  if s0 = 0 then (fX6_toldBy_j145 F o1 t kb kx a2 a7 (-2000000000) M) else (if a9 = (-1) then (fX6_toldBy_j145 F o1 t kb kx a2 a7 0 M) else ((fX0_value F M t a9 4).bind fun x13 => fX6_toldBy_j145 F o1 t kb kx a2 a7 x13.1 x13.2))
def fX6_toldBy_j103 (F : Nat) (o1 : Nat) (t : Nat) (kb : Int32 → Int32 → sp_Mem → Option (Int32 × sp_Mem)) (kx : sp_Mem → Option (Int32 × sp_Mem)) (a2 : Int32) (a7 : Int32) (a9 : Int32) (M : sp_Mem) : Option (Int32 × sp_Mem) :=
  fX6_toldBy_j108 F o1 t kb kx a2 a7 a9 1 M
def fX6_toldBy_l41 (F : Nat) (o1 : Nat) (t : Nat) (kx : sp_Mem → Option (Int32 × sp_Mem)) : Nat → Int32 → Int32 → sp_Mem → Option (Int32 × sp_Mem)
  | 0, _, _, _ => none
  | n + 1, a2, a7, M =>
  if a7 < 0 then (kx M) else ((fX9_slot M t a7 0).bind fun v6 => if v6 = a2 then ((fX9_slot M t a7 4).bind fun v8 => (fX9_slot M t a7 1).bind fun v9 => if v8 = (-1) then (fX6_toldBy_j103 F o1 t (fX6_toldBy_l41 F o1 t kx n) kx a2 a7 v9 M) else ((fX0_value F M t v8 4).bind fun x15 => fX6_toldBy_j108 F o1 t (fX6_toldBy_l41 F o1 t kx n) kx a2 a7 v9 (if x15.1 = 1 then 1 else 0) x15.2)) else ((fX6_toldBy_l41 F o1 t kx n) a2 (a7 + (-1)) M))
def fX6_toldBy_j11 (F : Nat) (o1 : Nat) (t : Nat) (a2 : Int32) (a3 : Int32) (a4 : Int32) (a5 : Int32) (M : sp_Mem) : Option (Int32 × sp_Mem) :=
  if (fX10_isCell a4) = 0 then (some ((-2000000000), M)) else ((fX6_lookAt M o1 a3 a4 a5).bind fun M3 => sp_do (((sp_I M3 t 2) - 1)) fun u4 => fX6_toldBy_l41 F o1 t (fun M17 => some ((-2000000000), M17)) F a2 u4 M3)
def fX6_toldBy (F : Nat) (M : sp_Mem) (o1 : Nat) (a2 : Int32) (a3 : Int32) (a4 : Int32) (a5 : Int32) : Option (Int32 × sp_Mem) :=
  (fX5_textInForce M o1).bind fun v1 => sp_mq v1 (some ((-2000000000), M)) (fun t => fX6_toldBy_j11 F o1 t a2 a3 a4 a5 M)
set_option maxRecDepth 100000 in
set_option maxHeartbeats 4000000 in
theorem tX6_toldBy_j145 {g : sp_G} {Ω : sp_Mem → Prop} {Q : sp_Qt} {F : Nat} {p : (Int32 × sp_Mem)} (hG : sp_Ok Ω) {o1 : Nat} (ho1 : sp_room o1) {t : Nat} (ht : ∀ M, Ω M → sp_text M t)  {kb : Int32 → Int32 → sp_Mem → Option (Int32 × sp_Mem)} {kx : sp_Mem → Option (Int32 × sp_Mem)} (hQ : Q (some (.int p.1)) p.2) (hb : ∀ (a2 : Int32) (a7 : Int32) (M : sp_Mem), kb a2 a7 M = some p → sp_Wp g Ω mX6_toldBy 0 0 41 [some (.ref 1), none, some (.int a2), none, none, none, some (.ref t), some (.int a7), none, none, none, none] [] M Q) (hx : ∀  (M : sp_Mem), kx M = some p → sp_Wp g Ω mX6_toldBy 0 0 163 [none, none, none, none, none, none, none, none, none, none, none, none] [] M Q) (a2 : Int32) (a7 : Int32) (s0 : Int32) (M : sp_Mem) (h : fX6_toldBy_j145 F o1 t kb kx a2 a7 s0 M = some p) : sp_Wp g Ω mX6_toldBy 0 0 145 [some (.ref 1), none, some (.int a2), none, none, none, some (.ref t), some (.int a7), none, none, none, none] [.int s0] M Q := by
  unfold fX6_toldBy_j145 at h
  refine sp_istore [some (.ref 1), none, some (.int a2), none, none, none, some (.ref t), some (.int a7), none, none, none, some (.int s0)] dX6_toldBy_145 (by decide) rfl ?_
  refine sp_iload dX6_toldBy_147 rfl ?_
  refine sp_ldc (v := (-2000000000)) dX6_toldBy_149 tw_515 ?_
  refine sp_icmp_eq (tgt := 157) dX6_toldBy_151 (by decide) (fun hc14 => ?_) (fun hc14 => ?_)
  · have h := (if_pos hc14).symm.trans h
    refine sp_iinc (v := (a7 + (-1))) [some (.ref 1), none, some (.int a2), none, none, none, some (.ref t), some (.int (a7 + (-1))), none, none, none, some (.int s0)] dX6_toldBy_157 rfl rfl (by decide) rfl ?_
    refine sp_goto (tgt := 41) dX6_toldBy_160 (by decide) ?_
    refine sp_weak [true, false, true, false, false, false, true, true, false, false, false, false] [some (.ref 1), none, some (.int a2), none, none, none, some (.ref t), some (.int (a7 + (-1))), none, none, none, none] rfl ?_
    exact hb _ _ _ h
  · have h := (if_neg hc14).symm.trans h
    refine sp_iload dX6_toldBy_154 rfl ?_
    cases h
    exact sp_iret dX6_toldBy_156 (ty := .int) rfl rfl (fun _ => hQ)
set_option maxRecDepth 100000 in
set_option maxHeartbeats 4000000 in
theorem tX6_toldBy_j108 {g : sp_G} {Ω : sp_Mem → Prop} {Q : sp_Qt} {F : Nat} {p : (Int32 × sp_Mem)} (hG : sp_Ok Ω) {o1 : Nat} (ho1 : sp_room o1) {t : Nat} (ht : ∀ M, Ω M → sp_text M t)  {kb : Int32 → Int32 → sp_Mem → Option (Int32 × sp_Mem)} {kx : sp_Mem → Option (Int32 × sp_Mem)} (hQ : Q (some (.int p.1)) p.2) (hb : ∀ (a2 : Int32) (a7 : Int32) (M : sp_Mem), kb a2 a7 M = some p → sp_Wp g Ω mX6_toldBy 0 0 41 [some (.ref 1), none, some (.int a2), none, none, none, some (.ref t), some (.int a7), none, none, none, none] [] M Q) (hx : ∀  (M : sp_Mem), kx M = some p → sp_Wp g Ω mX6_toldBy 0 0 163 [none, none, none, none, none, none, none, none, none, none, none, none] [] M Q) (a2 : Int32) (a7 : Int32) (a9 : Int32) (s0 : Int32) (M : sp_Mem) (h : fX6_toldBy_j108 F o1 t kb kx a2 a7 a9 s0 M = some p) : sp_Wp g Ω mX6_toldBy 0 0 108 [some (.ref 1), none, some (.int a2), none, none, none, some (.ref t), some (.int a7), none, some (.int a9), none, none] [.int s0] M Q := by
  unfold fX6_toldBy_j108 at h
  refine sp_istore [some (.ref 1), none, some (.int a2), none, none, none, some (.ref t), some (.int a7), none, some (.int a9), some (.int s0), none] dX6_toldBy_108 (by decide) rfl ?_
  refine sp_iload dX6_toldBy_110 rfl ?_
  refine sp_if_ne (tgt := 120) dX6_toldBy_112 (by decide) (fun hc11 => ?_) (fun hc11 => ?_)
  · have h := (if_neg hc11).symm.trans h
    refine sp_iload dX6_toldBy_120 rfl ?_
    refine sp_iconst (v := (-1)) dX6_toldBy_122 (by decide) ?_
    refine sp_icmp_ne (tgt := 130) dX6_toldBy_123 (by decide) (fun hc12 => ?_) (fun hc12 => ?_)
    · have h := (if_neg hc12).symm.trans h
      refine sp_aload_n dX6_toldBy_130 rfl rfl ?_
      refine sp_use (fun ho => ?_)
      have hs := hG.1 _ ho
      refine sp_getR (RX6, TX6, 2) dX6_toldBy_131 clX6 (j := 0) (by decide) tw_144 (wsI_1 hs) (Or.inl ⟨_, rfl⟩) (wsP_1_0 hs) ?_
      refine sp_aload dX6_toldBy_134 rfl ?_
      refine sp_iload dX6_toldBy_136 rfl ?_
      refine sp_aload_n dX6_toldBy_138 rfl rfl ?_
      refine sp_getR (RX6, TX6, 2) dX6_toldBy_139 clX6 (j := 1) (by decide) tw_145 (wsI_1 hs) (Or.inr ⟨_, rfl⟩) (wsP_1_1 hs) ?_
      obtain ⟨x13, hx13, h⟩ := Option.bind_eq_some_iff.mp h
      refine sp_cV (M1 := x13.2) (r := some (.int x13.1)) (o := 2) (st := []) (c := 0) (RX0, TX0, 1) [.ref t, .int a9, .ref 4] [.ref 4, .int a9, .ref t, .ref 2] [.int x13.1] dX6_toldBy_142 okX0_value tw_528 tw_529 tw_530 (by decide) (by decide) rfl (Nat.le_of_ble_eq_true rfl) rfl rfl rfl rfl (wsI_2 hs) (fun Q hQ => tX0_value hG ht words_4 hx13 hQ) ?_
      refine sp_weak [true, false, true, false, false, false, true, true, false, false, false, false] [some (.ref 1), none, some (.int a2), none, none, none, some (.ref t), some (.int a7), none, none, none, none] rfl ?_
      exact tX6_toldBy_j145 hG ho1 ht hQ hb hx _ _ _ _ h
    · have h := (if_pos hc12).symm.trans h
      refine sp_iconst (v := 0) dX6_toldBy_126 (by decide) ?_
      refine sp_goto (tgt := 145) dX6_toldBy_127 (by decide) ?_
      refine sp_weak [true, false, true, false, false, false, true, true, false, false, false, false] [some (.ref 1), none, some (.int a2), none, none, none, some (.ref t), some (.int a7), none, none, none, none] rfl ?_
      exact tX6_toldBy_j145 hG ho1 ht hQ hb hx _ _ _ _ h
  · have h := (if_pos hc11).symm.trans h
    refine sp_ldc (v := (-2000000000)) dX6_toldBy_115 tw_515 ?_
    refine sp_goto (tgt := 145) dX6_toldBy_117 (by decide) ?_
    refine sp_weak [true, false, true, false, false, false, true, true, false, false, false, false] [some (.ref 1), none, some (.int a2), none, none, none, some (.ref t), some (.int a7), none, none, none, none] rfl ?_
    exact tX6_toldBy_j145 hG ho1 ht hQ hb hx _ _ _ _ h
set_option maxRecDepth 100000 in
set_option maxHeartbeats 4000000 in
theorem tX6_toldBy_j103 {g : sp_G} {Ω : sp_Mem → Prop} {Q : sp_Qt} {F : Nat} {p : (Int32 × sp_Mem)} (hG : sp_Ok Ω) {o1 : Nat} (ho1 : sp_room o1) {t : Nat} (ht : ∀ M, Ω M → sp_text M t)  {kb : Int32 → Int32 → sp_Mem → Option (Int32 × sp_Mem)} {kx : sp_Mem → Option (Int32 × sp_Mem)} (hQ : Q (some (.int p.1)) p.2) (hb : ∀ (a2 : Int32) (a7 : Int32) (M : sp_Mem), kb a2 a7 M = some p → sp_Wp g Ω mX6_toldBy 0 0 41 [some (.ref 1), none, some (.int a2), none, none, none, some (.ref t), some (.int a7), none, none, none, none] [] M Q) (hx : ∀  (M : sp_Mem), kx M = some p → sp_Wp g Ω mX6_toldBy 0 0 163 [none, none, none, none, none, none, none, none, none, none, none, none] [] M Q) (a2 : Int32) (a7 : Int32) (a9 : Int32) (M : sp_Mem) (h : fX6_toldBy_j103 F o1 t kb kx a2 a7 a9 M = some p) : sp_Wp g Ω mX6_toldBy 0 0 103 [some (.ref 1), none, some (.int a2), none, none, none, some (.ref t), some (.int a7), none, some (.int a9), none, none] [] M Q := by
  unfold fX6_toldBy_j103 at h
  refine sp_iconst (v := 1) dX6_toldBy_103 (by decide) ?_
  refine sp_goto (tgt := 108) dX6_toldBy_104 (by decide) ?_
  refine sp_weak [true, false, true, false, false, false, true, true, false, true, false, false] [some (.ref 1), none, some (.int a2), none, none, none, some (.ref t), some (.int a7), none, some (.int a9), none, none] rfl ?_
  exact tX6_toldBy_j108 hG ho1 ht hQ hb hx _ _ _ _ _ h
set_option maxRecDepth 100000 in
set_option maxHeartbeats 4000000 in
theorem tX6_toldBy_l41 {g : sp_G} {Ω : sp_Mem → Prop} {Q : sp_Qt} {F : Nat} {p : (Int32 × sp_Mem)} (hG : sp_Ok Ω) {o1 : Nat} (ho1 : sp_room o1) {t : Nat} (ht : ∀ M, Ω M → sp_text M t)  {kx : sp_Mem → Option (Int32 × sp_Mem)} (hQ : Q (some (.int p.1)) p.2) (hx : ∀  (M : sp_Mem), kx M = some p → sp_Wp g Ω mX6_toldBy 0 0 163 [none, none, none, none, none, none, none, none, none, none, none, none] [] M Q) : ∀ (n : Nat) (a2 : Int32) (a7 : Int32) (M : sp_Mem), fX6_toldBy_l41 F o1 t kx n a2 a7 M = some p → sp_Wp g Ω mX6_toldBy 0 0 41 [some (.ref 1), none, some (.int a2), none, none, none, some (.ref t), some (.int a7), none, none, none, none] [] M Q := by
  intro n
  induction n with
  | zero =>
    intro a2 a7 M h
    rw [fX6_toldBy_l41] at h
    cases h
  | succ n ih =>
    intro a2 a7 M h
    rw [fX6_toldBy_l41] at h
    refine sp_iload dX6_toldBy_41 rfl ?_
    refine sp_if_lt (tgt := 163) dX6_toldBy_43 (by decide) (fun hc5 => ?_) (fun hc5 => ?_)
    · have h := (if_pos hc5).symm.trans h
      refine sp_weak [false, false, false, false, false, false, false, false, false, false, false, false] [none, none, none, none, none, none, none, none, none, none, none, none] rfl ?_
      exact hx _ h
    · have h := (if_neg hc5).symm.trans h
      refine sp_aload dX6_toldBy_46 rfl ?_
      refine sp_iload dX6_toldBy_48 rfl ?_
      refine sp_iconst (v := 0) dX6_toldBy_50 (by decide) ?_
      refine sp_use (fun ho => ?_)
      have hs := hG.1 _ ho
      obtain ⟨v6, hv6, h⟩ := Option.bind_eq_some_iff.mp h
      refine sp_cV (M1 := M) (r := some (.int v6)) (o := t) (st := []) (c := 8) (RX9, TX9, 4) [.int a7, .int 0] [.int 0, .int a7, .ref t] [.int v6] dX6_toldBy_51 okX9_slot tw_524 tw_525 tw_526 (by decide) (by decide) rfl (Nat.le_of_ble_eq_true rfl) rfl rfl rfl rfl (ht _ ho).1 (fun Q hQ => tX9_slot hG ht hv6 hQ) ?_
      refine sp_iload_n dX6_toldBy_54 rfl rfl ?_
      refine sp_icmp_ne (tgt := 157) dX6_toldBy_55 (by decide) (fun hc7 => ?_) (fun hc7 => ?_)
      · have h := (if_neg hc7).symm.trans h
        refine sp_iinc (v := (a7 + (-1))) [some (.ref 1), none, some (.int a2), none, none, none, some (.ref t), some (.int (a7 + (-1))), none, none, none, none] dX6_toldBy_157 rfl rfl (by decide) rfl ?_
        refine sp_goto (tgt := 41) dX6_toldBy_160 (by decide) ?_
        refine sp_weak [true, false, true, false, false, false, true, true, false, false, false, false] [some (.ref 1), none, some (.int a2), none, none, none, some (.ref t), some (.int (a7 + (-1))), none, none, none, none] rfl ?_
        exact ih _ _ _ h
      · have h := (if_pos hc7).symm.trans h
        refine sp_aload dX6_toldBy_58 rfl ?_
        refine sp_iload dX6_toldBy_60 rfl ?_
        refine sp_iconst (v := 4) dX6_toldBy_62 (by decide) ?_
        obtain ⟨v8, hv8, h⟩ := Option.bind_eq_some_iff.mp h
        refine sp_cV (M1 := M) (r := some (.int v8)) (o := t) (st := []) (c := 8) (RX9, TX9, 4) [.int a7, .int 4] [.int 4, .int a7, .ref t] [.int v8] dX6_toldBy_63 okX9_slot tw_524 tw_525 tw_526 (by decide) (by decide) rfl (Nat.le_of_ble_eq_true rfl) rfl rfl rfl rfl (ht _ ho).1 (fun Q hQ => tX9_slot hG ht hv8 hQ) ?_
        refine sp_istore [some (.ref 1), none, some (.int a2), none, none, none, some (.ref t), some (.int a7), some (.int v8), none, none, none] dX6_toldBy_66 (by decide) rfl ?_
        refine sp_aload dX6_toldBy_68 rfl ?_
        refine sp_iload dX6_toldBy_70 rfl ?_
        refine sp_iconst (v := 1) dX6_toldBy_72 (by decide) ?_
        obtain ⟨v9, hv9, h⟩ := Option.bind_eq_some_iff.mp h
        refine sp_cV (M1 := M) (r := some (.int v9)) (o := t) (st := []) (c := 8) (RX9, TX9, 4) [.int a7, .int 1] [.int 1, .int a7, .ref t] [.int v9] dX6_toldBy_73 okX9_slot tw_524 tw_525 tw_526 (by decide) (by decide) rfl (Nat.le_of_ble_eq_true rfl) rfl rfl rfl rfl (ht _ ho).1 (fun Q hQ => tX9_slot hG ht hv9 hQ) ?_
        refine sp_istore [some (.ref 1), none, some (.int a2), none, none, none, some (.ref t), some (.int a7), some (.int v8), some (.int v9), none, none] dX6_toldBy_76 (by decide) rfl ?_
        refine sp_iload dX6_toldBy_78 rfl ?_
        refine sp_iconst (v := (-1)) dX6_toldBy_80 (by decide) ?_
        refine sp_icmp_eq (tgt := 103) dX6_toldBy_81 (by decide) (fun hc10 => ?_) (fun hc10 => ?_)
        · have h := (if_pos hc10).symm.trans h
          refine sp_weak [true, false, true, false, false, false, true, true, false, true, false, false] [some (.ref 1), none, some (.int a2), none, none, none, some (.ref t), some (.int a7), none, some (.int v9), none, none] rfl ?_
          exact tX6_toldBy_j103 hG ho1 ht hQ ih hx _ _ _ _ h
        · have h := (if_neg hc10).symm.trans h
          refine sp_aload_n dX6_toldBy_84 rfl rfl ?_
          refine sp_getR (RX6, TX6, 2) dX6_toldBy_85 clX6 (j := 0) (by decide) tw_144 (wsI_1 hs) (Or.inl ⟨_, rfl⟩) (wsP_1_0 hs) ?_
          refine sp_aload dX6_toldBy_88 rfl ?_
          refine sp_iload dX6_toldBy_90 rfl ?_
          refine sp_aload_n dX6_toldBy_92 rfl rfl ?_
          refine sp_getR (RX6, TX6, 2) dX6_toldBy_93 clX6 (j := 1) (by decide) tw_145 (wsI_1 hs) (Or.inr ⟨_, rfl⟩) (wsP_1_1 hs) ?_
          obtain ⟨x15, hx15, h⟩ := Option.bind_eq_some_iff.mp h
          refine sp_cV (M1 := x15.2) (r := some (.int x15.1)) (o := 2) (st := []) (c := 0) (RX0, TX0, 1) [.ref t, .int v8, .ref 4] [.ref 4, .int v8, .ref t, .ref 2] [.int x15.1] dX6_toldBy_96 okX0_value tw_528 tw_529 tw_530 (by decide) (by decide) rfl (Nat.le_of_ble_eq_true rfl) rfl rfl rfl rfl (wsI_2 hs) (fun Q hQ => tX0_value hG ht words_4 hx15 hQ) ?_
          refine sp_iconst (v := 1) dX6_toldBy_99 (by decide) ?_
          suffices hj : sp_Wp g Ω mX6_toldBy 0 0 108 [some (.ref 1), none, some (.int a2), none, none, none, some (.ref t), some (.int a7), none, some (.int v9), none, none] [.int (if x15.1 = 1 then 1 else 0)] x15.2 Q by
            refine sp_icmp_ne (tgt := 107) dX6_toldBy_100 (by decide) (fun hc16 => ?_) (fun hc16 => ?_)
            · refine sp_iconst (v := 0) dX6_toldBy_107 (by decide) ?_
              refine sp_weak [true, false, true, false, false, false, true, true, false, true, false, false] [some (.ref 1), none, some (.int a2), none, none, none, some (.ref t), some (.int a7), none, some (.int v9), none, none] rfl ?_
              simp only [if_neg hc16] at hj
              exact hj
            · refine sp_iconst (v := 1) dX6_toldBy_103 (by decide) ?_
              refine sp_goto (tgt := 108) dX6_toldBy_104 (by decide) ?_
              refine sp_weak [true, false, true, false, false, false, true, true, false, true, false, false] [some (.ref 1), none, some (.int a2), none, none, none, some (.ref t), some (.int a7), none, some (.int v9), none, none] rfl ?_
              simp only [if_pos hc16] at hj
              exact hj
          refine sp_weak [true, false, true, false, false, false, true, true, false, true, false, false] [some (.ref 1), none, some (.int a2), none, none, none, some (.ref t), some (.int a7), none, some (.int v9), none, none] rfl ?_
          exact tX6_toldBy_j108 hG ho1 ht hQ ih hx _ _ _ _ _ h
set_option maxRecDepth 100000 in
set_option maxHeartbeats 4000000 in
theorem tX6_toldBy_j11 {g : sp_G} {Ω : sp_Mem → Prop} {Q : sp_Qt} {F : Nat} {p : (Int32 × sp_Mem)} (hG : sp_Ok Ω) {o1 : Nat} (ho1 : sp_room o1) {t : Nat} (ht : ∀ M, Ω M → sp_text M t)  (hQ : Q (some (.int p.1)) p.2) (a2 : Int32) (a3 : Int32) (a4 : Int32) (a5 : Int32) (M : sp_Mem) (h : fX6_toldBy_j11 F o1 t a2 a3 a4 a5 M = some p) : sp_Wp g Ω mX6_toldBy 0 0 11 [some (.ref 1), some (.ref o1), some (.int a2), some (.int a3), some (.int a4), some (.int a5), some (.ref t), none, none, none, none, none] [] M Q := by
  unfold fX6_toldBy_j11 at h
  refine sp_iload dX6_toldBy_11 rfl ?_
  refine sp_use (fun ho => ?_)
  have hs := hG.1 _ ho
  refine sp_cSN (M1 := M) (r := some (.int (fX10_isCell a4))) (st := []) [.int a4] [.int a4] [.int (fX10_isCell a4)] dX6_toldBy_13 okX10_isCell (by decide +kernel) tw_469 (by decide) (by decide) rfl (Nat.le_of_ble_eq_true rfl) rfl rfl (fun Q hQ => tX10_isCell hG rfl hQ) ?_
  refine sp_if_ne (tgt := 22) dX6_toldBy_16 (by decide) (fun hc2 => ?_) (fun hc2 => ?_)
  · have h := (if_neg hc2).symm.trans h
    refine sp_aload_n dX6_toldBy_22 rfl rfl ?_
    refine sp_aload_n dX6_toldBy_23 rfl rfl ?_
    refine sp_iload_n dX6_toldBy_24 rfl rfl ?_
    refine sp_iload dX6_toldBy_25 rfl ?_
    refine sp_iload dX6_toldBy_27 rfl ?_
    obtain ⟨M3, hM3, h⟩ := Option.bind_eq_some_iff.mp h
    refine sp_cV (M1 := M3) (r := none) (o := 1) (st := []) (c := 5) (RX6, TX6, 2) [.ref o1, .int a3, .int a4, .int a5] [.int a5, .int a4, .int a3, .ref o1, .ref 1] [] dX6_toldBy_29 okX6_lookAt tw_516 tw_518 tw_3 (by decide) (by decide) rfl (Nat.le_of_ble_eq_true rfl) rfl rfl rfl rfl (wsI_1 hs) (fun Q hQ => tX6_lookAt hG ho1 hM3 hQ) ?_
    refine sp_aload dX6_toldBy_32 rfl ?_
    refine sp_use (fun ho => ?_)
    have hs := hG.1 _ ho
    refine sp_getI (RX9, TX9, 4) dX6_toldBy_34 clX9 (j := 2) (by decide) tw_372 (ht _ ho).1 (Or.inl rfl) ?_
    refine sp_iconst (v := 1) dX6_toldBy_37 (by decide) ?_
    refine sp_isub dX6_toldBy_38 ?_
    obtain ⟨u4, hu4, h⟩ := sp_do_e h
    refine sp_topi hu4 ?_
    refine sp_istore [some (.ref 1), some (.ref o1), some (.int a2), some (.int a3), some (.int a4), some (.int a5), some (.ref t), some (.int u4), none, none, none, none] dX6_toldBy_39 (by decide) rfl ?_
    refine sp_weak [true, false, true, false, false, false, true, true, false, false, false, false] [some (.ref 1), none, some (.int a2), none, none, none, some (.ref t), some (.int u4), none, none, none, none] rfl ?_
    refine tX6_toldBy_l41 hG ho1 ht hQ (fun M17 h => ?_) F _ _ _ h
    refine sp_ldc (v := (-2000000000)) dX6_toldBy_163 tw_515 ?_
    cases h
    exact sp_iret dX6_toldBy_165 (ty := .int) rfl rfl (fun _ => hQ)
  · have h := (if_pos hc2).symm.trans h
    refine sp_ldc (v := (-2000000000)) dX6_toldBy_19 tw_515 ?_
    cases h
    exact sp_iret dX6_toldBy_21 (ty := .int) rfl rfl (fun _ => hQ)
set_option maxRecDepth 100000 in
set_option maxHeartbeats 4000000 in
theorem tX6_toldBy {g : sp_G} {Ω : sp_Mem → Prop} {Q : sp_Qt} {F : Nat} {p : (Int32 × sp_Mem)} (hG : sp_Ok Ω) {o1 : Nat} (ho1 : sp_room o1) {M : sp_Mem} {a2 : Int32} {a3 : Int32} {a4 : Int32} {a5 : Int32} (h : fX6_toldBy F M o1 a2 a3 a4 a5 = some p) (hQ : Q (some (.int p.1)) p.2) : sp_Mt g Ω mX6_toldBy 0 0 [.ref 1, .ref o1, .int a2, .int a3, .int a4, .int a5] M Q := by
  unfold fX6_toldBy at h
  refine sp_Mt.of [some (.ref 1), some (.ref o1), some (.int a2), some (.int a3), some (.int a4), some (.int a5), none, none, none, none, none, none] (by decide) (by simp [sp_ent, Value.category]) rfl ?_
  refine sp_aload_n dX6_toldBy_0 rfl rfl ?_
  refine sp_use (fun ho => ?_)
  have hs := hG.1 _ ho
  obtain ⟨v1, hv1, h⟩ := Option.bind_eq_some_iff.mp h
  refine sp_cV (M1 := M) (r := some ((va_rf v1))) (o := o1) (st := []) (c := 4) (RX5, TX5, 16) [] [.ref o1] [(va_rf v1)] dX6_toldBy_1 okX5_textInForce tw_506 tw_507 tw_508 (by decide) (by decide) rfl (Nat.le_of_ble_eq_true rfl) rfl rfl rfl rfl (rmI hs ho1) (fun Q hQ => tX5_textInForce hG ho1 hv1 hQ) ?_
  refine sp_astoreQ [some (.ref 1), some (.ref o1), some (.int a2), some (.int a3), some (.int a4), some (.int a5), some ((va_rf v1)), none, none, none, none, none] dX6_toldBy_4 (by decide) rfl ?_
  refine sp_aloadQ dX6_toldBy_6 rfl ?_
  rcases sp_mq_e h with ⟨hq, h⟩ | ⟨t, hq, h⟩
  · refine sp_ifnull (tgt := 19) dX6_toldBy_8 (by decide) (fun _ => ?_) (fun a ha => by rw [hq] at ha; cases ha)
    refine sp_weak [true, true, true, true, true, true, false, false, false, false, false, false] [some (.ref 1), some (.ref o1), some (.int a2), some (.int a3), some (.int a4), some (.int a5), none, none, none, none, none, none] rfl ?_
    refine sp_ldc (v := (-2000000000)) dX6_toldBy_19 tw_515 ?_
    cases h
    exact sp_iret dX6_toldBy_21 (ty := .int) rfl rfl (fun _ => hQ)
  · refine sp_ifnull (tgt := 19) dX6_toldBy_8 (by decide) (fun ha => by rw [hq] at ha; cases ha) (fun _ _ => ?_)
    subst hq
    have hT := textInForce_text hs ho1 hv1
    refine sp_chg (Ω' := fun M => Ω M ∧ sp_text M t) (fun h => ⟨h, hT⟩) (fun _ h => h.1) ?_
    refine sp_weak [true, true, true, true, true, true, true, false, false, false, false, false] [some (.ref 1), some (.ref o1), some (.int a2), some (.int a3), some (.int a4), some (.int a5), some (.ref t), none, none, none, none, none] rfl ?_
    exact tX6_toldBy_j11 (sp_Ok_text hG t) ho1 (fun _ h => h.2) hQ _ _ _ _ _ h
