set_option maxRecDepth 100000 in
set_option maxHeartbeats 4000000 in
theorem cc_1 {g : sp_G} {Q : sp_Qt} (hQ : Q none mm_5) : sp_Mt g sp_Tr mX0_init 1 52 [.ref 2] mm_3 Q := by
  refine sp_Mt.of [some (.ref 2)] (by decide) (by simp [sp_ent, Value.category]) rfl ?_
  refine sp_aload_n dX0_init_0 rfl rfl ?_
  refine sp_objInit dX0_init_1 tw_138 tw_125 tw_126 (by decide) (by decide) ?_
  refine sp_aload_n dX0_init_4 rfl rfl ?_
  refine sp_bipush (v := 52) dX0_init_5 (by decide) ?_
  refine sp_newa2 (t := 0) (N := 52) (M1 := mm_4) 0 0 (Or.inl ⟨rfl, rfl⟩) dX0_init_7 tw_143 (by decide) (by decide +kernel) (by decide) (show _ = 3 by decide +kernel) (by decide) rfl ?_
  refine sp_putP3 (M1 := mm_5) (RX0, TX0, 1) dX0_init_9 clX0 (j := 0) (by decide) tw_139 (Or.inr ⟨rfl, rfl, rfl⟩) (Or.inr ⟨_, rfl⟩) ⟨by decide +kernel, by decide +kernel⟩ rfl ?_
  exact sp_vret dX0_init_12 rfl (fun _ => hQ)
set_option maxRecDepth 100000 in
set_option maxHeartbeats 4000000 in
theorem cc_2 {g : sp_G} {Q : sp_Qt} (hQ : Q none mm_8) : sp_Mt g sp_Tr mX6_init 3 63 [.ref 1] mm_2 Q := by
  refine sp_Mt.of [some (.ref 1)] (by decide) (by simp [sp_ent, Value.category]) rfl ?_
  refine sp_aload_n dX6_init_0 rfl rfl ?_
  refine sp_objInit dX6_init_1 tw_132 tw_125 tw_126 (by decide) (by decide) ?_
  refine sp_aload_n dX6_init_4 rfl rfl ?_
  refine sp_newo2 (M1 := mm_3) 2 62 (RX0, TX0, 1) dX6_init_5 clX0 tw_133 tw_134 tw_101 (show _ = 2 by decide +kernel) (by decide) rfl ?_
  refine sp_dup dX6_init_8 rfl ?_
  refine sp_cIN (M1 := mm_5) (st := [.ref 2, .ref 1]) (mc1 := 1) (ms1 := 52) 1 10 [] [.ref 2, .ref 2, .ref 1] dX6_init_9 okX0_init (by decide +kernel) rfl rfl tw_136 (by decide) (by decide) rfl (Nat.le_of_ble_eq_true rfl) (by decide +kernel) rfl (fun Q hQ => cc_1 hQ) ?_
  refine sp_putP3 (M1 := mm_6) (RX6, TX6, 2) dX6_init_12 clX6 (j := 0) (by decide) tw_144 (Or.inr ⟨rfl, rfl, rfl⟩) (Or.inl ⟨_, rfl⟩) ⟨by decide +kernel, by decide +kernel⟩ rfl ?_
  refine sp_aload_n dX6_init_15 rfl rfl ?_
  refine sp_bipush (v := 10) dX6_init_16 (by decide) ?_
  refine sp_newa2 (t := 0) (N := 10) (M1 := mm_7) 0 0 (Or.inl ⟨rfl, rfl⟩) dX6_init_18 tw_143 (by decide) (by decide +kernel) (by decide) (show _ = 4 by decide +kernel) (by decide) rfl ?_
  refine sp_putP3 (M1 := mm_8) (RX6, TX6, 2) dX6_init_20 clX6 (j := 1) (by decide) tw_145 (Or.inr ⟨rfl, rfl, rfl⟩) (Or.inr ⟨_, rfl⟩) ⟨by decide +kernel, by decide +kernel⟩ rfl ?_
  exact sp_vret dX6_init_23 rfl (fun _ => hQ)
set_option maxRecDepth 100000 in
set_option maxHeartbeats 4000000 in
theorem cc_3 {g : sp_G} {Q : sp_Qt} (hQ : Q none mm_35) : sp_Mt g sp_Tr mX5_init 11 80 [.ref 6] mm_11 Q := by
  refine sp_Mt.of [some (.ref 6)] (by decide) (by simp [sp_ent, Value.category]) rfl ?_
  refine sp_aload_n dX5_init_0 rfl rfl ?_
  refine sp_objInit dX5_init_1 tw_162 tw_125 tw_126 (by decide) (by decide) ?_
  refine sp_aload_n dX5_init_4 rfl rfl ?_
  refine sp_bipush (v := 25) dX5_init_5 (by decide) ?_
  refine sp_newa2 (t := 0) (N := 25) (M1 := mm_12) 10 55 (Or.inl ⟨rfl, rfl⟩) dX5_init_7 tw_143 (by decide) (by decide +kernel) (by decide) (show _ = 7 by decide +kernel) (by decide) rfl ?_
  refine sp_putP3 (M1 := mm_13) (RX5, TX5, 16) dX5_init_9 clX5 (j := 0) (by decide) tw_165 (Or.inr ⟨rfl, rfl, rfl⟩) (Or.inr ⟨_, rfl⟩) ⟨by decide +kernel, by decide +kernel⟩ rfl ?_
  refine sp_aload_n dX5_init_12 rfl rfl ?_
  refine sp_bipush (v := 6) dX5_init_13 (by decide) ?_
  refine sp_newa2 (t := 0) (N := 6) (M1 := mm_14) 9 49 (Or.inl ⟨rfl, rfl⟩) dX5_init_15 tw_143 (by decide) (by decide +kernel) (by decide) (show _ = 8 by decide +kernel) (by decide) rfl ?_
  refine sp_putP3 (M1 := mm_15) (RX5, TX5, 16) dX5_init_17 clX5 (j := 1) (by decide) tw_169 (Or.inr ⟨rfl, rfl, rfl⟩) (Or.inr ⟨_, rfl⟩) ⟨by decide +kernel, by decide +kernel⟩ rfl ?_
  refine sp_aload_n dX5_init_20 rfl rfl ?_
  refine sp_bipush (v := 6) dX5_init_21 (by decide) ?_
  refine sp_newa2 (t := 0) (N := 6) (M1 := mm_16) 8 43 (Or.inl ⟨rfl, rfl⟩) dX5_init_23 tw_143 (by decide) (by decide +kernel) (by decide) (show _ = 9 by decide +kernel) (by decide) rfl ?_
  refine sp_putP3 (M1 := mm_17) (RX5, TX5, 16) dX5_init_25 clX5 (j := 2) (by decide) tw_175 (Or.inr ⟨rfl, rfl, rfl⟩) (Or.inr ⟨_, rfl⟩) ⟨by decide +kernel, by decide +kernel⟩ rfl ?_
  refine sp_aload_n dX5_init_28 rfl rfl ?_
  refine sp_bipush (v := 6) dX5_init_29 (by decide) ?_
  refine sp_newa2 (t := 0) (N := 6) (M1 := mm_18) 7 37 (Or.inl ⟨rfl, rfl⟩) dX5_init_31 tw_143 (by decide) (by decide +kernel) (by decide) (show _ = 10 by decide +kernel) (by decide) rfl ?_
  refine sp_putP3 (M1 := mm_19) (RX5, TX5, 16) dX5_init_33 clX5 (j := 3) (by decide) tw_179 (Or.inr ⟨rfl, rfl, rfl⟩) (Or.inr ⟨_, rfl⟩) ⟨by decide +kernel, by decide +kernel⟩ rfl ?_
  refine sp_aload_n dX5_init_36 rfl rfl ?_
  refine sp_iconst (v := 5) dX5_init_37 (by decide) ?_
  refine sp_newa2 (t := 0) (N := 5) (M1 := mm_20) 6 32 (Or.inl ⟨rfl, rfl⟩) dX5_init_38 tw_143 (by decide) (by decide +kernel) (by decide) (show _ = 11 by decide +kernel) (by decide) rfl ?_
  refine sp_putP3 (M1 := mm_21) (RX5, TX5, 16) dX5_init_40 clX5 (j := 5) (by decide) tw_188 (Or.inr ⟨rfl, rfl, rfl⟩) (Or.inr ⟨_, rfl⟩) ⟨by decide +kernel, by decide +kernel⟩ rfl ?_
  refine sp_aload_n dX5_init_43 rfl rfl ?_
  refine sp_iconst (v := 5) dX5_init_44 (by decide) ?_
  refine sp_newa2 (t := 0) (N := 5) (M1 := mm_22) 5 27 (Or.inl ⟨rfl, rfl⟩) dX5_init_45 tw_143 (by decide) (by decide +kernel) (by decide) (show _ = 12 by decide +kernel) (by decide) rfl ?_
  refine sp_putP3 (M1 := mm_23) (RX5, TX5, 16) dX5_init_47 clX5 (j := 6) (by decide) tw_192 (Or.inr ⟨rfl, rfl, rfl⟩) (Or.inr ⟨_, rfl⟩) ⟨by decide +kernel, by decide +kernel⟩ rfl ?_
  refine sp_aload_n dX5_init_50 rfl rfl ?_
  refine sp_iconst (v := 5) dX5_init_51 (by decide) ?_
  refine sp_newa2 (t := 0) (N := 5) (M1 := mm_24) 4 22 (Or.inl ⟨rfl, rfl⟩) dX5_init_52 tw_143 (by decide) (by decide +kernel) (by decide) (show _ = 13 by decide +kernel) (by decide) rfl ?_
  refine sp_putP3 (M1 := mm_25) (RX5, TX5, 16) dX5_init_54 clX5 (j := 7) (by decide) tw_195 (Or.inr ⟨rfl, rfl, rfl⟩) (Or.inr ⟨_, rfl⟩) ⟨by decide +kernel, by decide +kernel⟩ rfl ?_
  refine sp_aload_n dX5_init_57 rfl rfl ?_
  refine sp_bipush (v := 6) dX5_init_58 (by decide) ?_
  refine sp_newa2 (t := 0) (N := 6) (M1 := mm_26) 3 16 (Or.inl ⟨rfl, rfl⟩) dX5_init_60 tw_143 (by decide) (by decide +kernel) (by decide) (show _ = 14 by decide +kernel) (by decide) rfl ?_
  refine sp_putP3 (M1 := mm_27) (RX5, TX5, 16) dX5_init_62 clX5 (j := 9) (by decide) tw_203 (Or.inr ⟨rfl, rfl, rfl⟩) (Or.inr ⟨_, rfl⟩) ⟨by decide +kernel, by decide +kernel⟩ rfl ?_
  refine sp_aload_n dX5_init_65 rfl rfl ?_
  refine sp_bipush (v := 6) dX5_init_66 (by decide) ?_
  refine sp_newa2 (t := 0) (N := 6) (M1 := mm_28) 2 10 (Or.inl ⟨rfl, rfl⟩) dX5_init_68 tw_143 (by decide) (by decide +kernel) (by decide) (show _ = 15 by decide +kernel) (by decide) rfl ?_
  refine sp_putP3 (M1 := mm_29) (RX5, TX5, 16) dX5_init_70 clX5 (j := 10) (by decide) tw_205 (Or.inr ⟨rfl, rfl, rfl⟩) (Or.inr ⟨_, rfl⟩) ⟨by decide +kernel, by decide +kernel⟩ rfl ?_
  refine sp_aload_n dX5_init_73 rfl rfl ?_
  refine sp_iconst (v := 4) dX5_init_74 (by decide) ?_
  refine sp_newa2 (t := 0) (N := 4) (M1 := mm_30) 1 6 (Or.inl ⟨rfl, rfl⟩) dX5_init_75 tw_143 (by decide) (by decide +kernel) (by decide) (show _ = 16 by decide +kernel) (by decide) rfl ?_
  refine sp_putP3 (M1 := mm_31) (RX5, TX5, 16) dX5_init_77 clX5 (j := 12) (by decide) tw_210 (Or.inr ⟨rfl, rfl, rfl⟩) (Or.inr ⟨_, rfl⟩) ⟨by decide +kernel, by decide +kernel⟩ rfl ?_
  refine sp_aload_n dX5_init_80 rfl rfl ?_
  refine sp_bipush (v := 6) dX5_init_81 (by decide) ?_
  refine sp_newr2 (t := 4) (N := 6) (M1 := mm_32) 0 0 (Or.inr ⟨rfl, rfl⟩) dX5_init_83 tw_163 (by decide) (by decide +kernel) (by decide) (show _ = 17 by decide +kernel) (by decide) rfl ?_
  refine sp_putP3 (M1 := mm_33) (RX5, TX5, 16) dX5_init_86 clX5 (j := 13) (by decide) tw_215 (Or.inr ⟨rfl, rfl, rfl⟩) (Or.inr ⟨_, rfl⟩) ⟨by decide +kernel, by decide +kernel⟩ rfl ?_
  refine sp_aload_n dX5_init_89 rfl rfl ?_
  refine sp_iconst (v := (-1)) dX5_init_90 (by decide) ?_
  refine sp_putI3 (M1 := mm_34) (RX5, TX5, 16) dX5_init_91 clX5 (j := 15) (by decide) tw_218 (Or.inl rfl) rfl ⟨by decide +kernel, by decide +kernel⟩ rfl ?_
  refine sp_aload_n dX5_init_94 rfl rfl ?_
  refine sp_getR (RX5, TX5, 16) dX5_init_95 clX5 (j := 12) (a := 16) (by decide) tw_210 ⟨by decide +kernel, by decide +kernel⟩ (Or.inr ⟨_, rfl⟩) (by decide +kernel) ?_
  refine sp_iconst (v := 1) dX5_init_98 (by decide) ?_
  refine sp_iconst (v := 1) dX5_init_99 (by decide) ?_
  refine sp_iast3 (j := 1) (M1 := mm_35) dX5_init_100 ⟨by decide +kernel, by decide +kernel⟩ (by unfold vp_in; decide +kernel) (by decide +kernel) rfl ?_
  exact sp_vret dX5_init_101 rfl (fun _ => hQ)
set_option maxRecDepth 100000 in
set_option maxHeartbeats 4000000 in
theorem cc_4 {g : sp_G} {Q : sp_Qt} (hQ : Q none mm_41) : sp_Mt g sp_Tr mX3_init 2 748 [.ref 18] mm_37 Q := by
  refine sp_Mt.of [some (.ref 18)] (by decide) (by simp [sp_ent, Value.category]) rfl ?_
  refine sp_aload_n dX3_init_0 rfl rfl ?_
  refine sp_objInit dX3_init_1 tw_259 tw_125 tw_126 (by decide) (by decide) ?_
  refine sp_aload_n dX3_init_4 rfl rfl ?_
  refine sp_sipush (v := 731) dX3_init_5 (by decide) ?_
  refine sp_newa2 (t := 0) (N := 731) (M1 := mm_38) 1 17 (Or.inl ⟨rfl, rfl⟩) dX3_init_8 tw_143 (by decide) (by decide +kernel) (by decide) (show _ = 19 by decide +kernel) (by decide) rfl ?_
  refine sp_putP3 (M1 := mm_39) (RX3, TX3, 4) dX3_init_10 clX3 (j := 0) (by decide) tw_260 (Or.inr ⟨rfl, rfl, rfl⟩) (Or.inr ⟨_, rfl⟩) ⟨by decide +kernel, by decide +kernel⟩ rfl ?_
  refine sp_aload_n dX3_init_13 rfl rfl ?_
  refine sp_bipush (v := 17) dX3_init_14 (by decide) ?_
  refine sp_newa2 (t := 0) (N := 17) (M1 := mm_40) 0 0 (Or.inl ⟨rfl, rfl⟩) dX3_init_16 tw_143 (by decide) (by decide +kernel) (by decide) (show _ = 20 by decide +kernel) (by decide) rfl ?_
  refine sp_putP3 (M1 := mm_41) (RX3, TX3, 4) dX3_init_18 clX3 (j := 1) (by decide) tw_261 (Or.inr ⟨rfl, rfl, rfl⟩) (Or.inr ⟨_, rfl⟩) ⟨by decide +kernel, by decide +kernel⟩ rfl ?_
  exact sp_vret dX3_init_21 rfl (fun _ => hQ)
set_option maxRecDepth 100000 in
set_option maxHeartbeats 4000000 in
theorem cc_5 {g : sp_G} {Q : sp_Qt} (hQ : Q none mm_45) : sp_Mt g sp_Tr mX7_init 16 864 [.ref 5, .ref 1] mm_10 Q := by
  refine sp_Mt.of [some (.ref 5), some (.ref 1)] (by decide) (by simp [sp_ent, Value.category]) rfl ?_
  refine sp_aload_n dX7_init_0 rfl rfl ?_
  refine sp_objInit dX7_init_1 tw_156 tw_125 tw_126 (by decide) (by decide) ?_
  refine sp_aload_n dX7_init_4 rfl rfl ?_
  refine sp_newo2 (M1 := mm_11) 15 848 (RX5, TX5, 16) dX7_init_5 clX5 tw_157 tw_158 tw_103 (show _ = 6 by decide +kernel) (by decide) rfl ?_
  refine sp_dup dX7_init_8 rfl ?_
  refine sp_cI (M1 := mm_35) (st := [.ref 6, .ref 5]) (mc1 := 11) (ms1 := 80) 4 768 [] [.ref 6, .ref 6, .ref 5] dX7_init_9 okX5_init tw_159 rfl rfl tw_160 (by decide) (by decide) rfl (Nat.le_of_ble_eq_true rfl) (by decide +kernel) rfl (fun Q hQ => cc_3 hQ) ?_
  refine sp_putP3 (M1 := mm_36) (RX7, TX7, 6) dX7_init_12 clX7 (j := 0) (by decide) tw_274 (Or.inr ⟨rfl, rfl, rfl⟩) (Or.inl ⟨_, rfl⟩) ⟨by decide +kernel, by decide +kernel⟩ rfl ?_
  refine sp_aload_n dX7_init_15 rfl rfl ?_
  refine sp_newo2 (M1 := mm_37) 3 764 (RX3, TX3, 4) dX7_init_16 clX3 tw_254 tw_255 tw_104 (show _ = 18 by decide +kernel) (by decide) rfl ?_
  refine sp_dup dX7_init_19 rfl ?_
  refine sp_cIN (M1 := mm_41) (st := [.ref 18, .ref 5]) (mc1 := 2) (ms1 := 748) 1 16 [] [.ref 18, .ref 18, .ref 5] dX7_init_20 okX3_init (by decide +kernel) rfl rfl tw_257 (by decide) (by decide) rfl (Nat.le_of_ble_eq_true rfl) (by decide +kernel) rfl (fun Q hQ => cc_4 hQ) ?_
  refine sp_putP3 (M1 := mm_42) (RX7, TX7, 6) dX7_init_23 clX7 (j := 1) (by decide) tw_276 (Or.inr ⟨rfl, rfl, rfl⟩) (Or.inl ⟨_, rfl⟩) ⟨by decide +kernel, by decide +kernel⟩ rfl ?_
  refine sp_aload_n dX7_init_26 rfl rfl ?_
  refine sp_bipush (v := 16) dX7_init_27 (by decide) ?_
  refine sp_newa2 (t := 0) (N := 16) (M1 := mm_43) 0 0 (Or.inl ⟨rfl, rfl⟩) dX7_init_29 tw_143 (by decide) (by decide +kernel) (by decide) (show _ = 21 by decide +kernel) (by decide) rfl ?_
  refine sp_putP3 (M1 := mm_44) (RX7, TX7, 6) dX7_init_31 clX7 (j := 3) (by decide) tw_279 (Or.inr ⟨rfl, rfl, rfl⟩) (Or.inr ⟨_, rfl⟩) ⟨by decide +kernel, by decide +kernel⟩ rfl ?_
  refine sp_aload_n dX7_init_34 rfl rfl ?_
  refine sp_aload_n dX7_init_35 rfl rfl ?_
  refine sp_putP3 (M1 := mm_45) (RX7, TX7, 6) dX7_init_36 clX7 (j := 2) (by decide) tw_278 (Or.inr ⟨rfl, rfl, rfl⟩) (Or.inl ⟨_, rfl⟩) ⟨by decide +kernel, by decide +kernel⟩ rfl ?_
  exact sp_vret dX7_init_39 rfl (fun _ => hQ)
set_option maxRecDepth 100000 in
set_option maxHeartbeats 4000000 in
theorem cc_6 {g : sp_G} {Q : sp_Qt} (hQ : Q none mm_72) : sp_Mt g sp_Tr mX5_init 11 80 [.ref 23] mm_48 Q := by
  refine sp_Mt.of [some (.ref 23)] (by decide) (by simp [sp_ent, Value.category]) rfl ?_
  refine sp_aload_n dX5_init_0 rfl rfl ?_
  refine sp_objInit dX5_init_1 tw_162 tw_125 tw_126 (by decide) (by decide) ?_
  refine sp_aload_n dX5_init_4 rfl rfl ?_
  refine sp_bipush (v := 25) dX5_init_5 (by decide) ?_
  refine sp_newa2 (t := 0) (N := 25) (M1 := mm_49) 10 55 (Or.inl ⟨rfl, rfl⟩) dX5_init_7 tw_143 (by decide) (by decide +kernel) (by decide) (show _ = 24 by decide +kernel) (by decide) rfl ?_
  refine sp_putP3 (M1 := mm_50) (RX5, TX5, 16) dX5_init_9 clX5 (j := 0) (by decide) tw_165 (Or.inr ⟨rfl, rfl, rfl⟩) (Or.inr ⟨_, rfl⟩) ⟨by decide +kernel, by decide +kernel⟩ rfl ?_
  refine sp_aload_n dX5_init_12 rfl rfl ?_
  refine sp_bipush (v := 6) dX5_init_13 (by decide) ?_
  refine sp_newa2 (t := 0) (N := 6) (M1 := mm_51) 9 49 (Or.inl ⟨rfl, rfl⟩) dX5_init_15 tw_143 (by decide) (by decide +kernel) (by decide) (show _ = 25 by decide +kernel) (by decide) rfl ?_
  refine sp_putP3 (M1 := mm_52) (RX5, TX5, 16) dX5_init_17 clX5 (j := 1) (by decide) tw_169 (Or.inr ⟨rfl, rfl, rfl⟩) (Or.inr ⟨_, rfl⟩) ⟨by decide +kernel, by decide +kernel⟩ rfl ?_
  refine sp_aload_n dX5_init_20 rfl rfl ?_
  refine sp_bipush (v := 6) dX5_init_21 (by decide) ?_
  refine sp_newa2 (t := 0) (N := 6) (M1 := mm_53) 8 43 (Or.inl ⟨rfl, rfl⟩) dX5_init_23 tw_143 (by decide) (by decide +kernel) (by decide) (show _ = 26 by decide +kernel) (by decide) rfl ?_
  refine sp_putP3 (M1 := mm_54) (RX5, TX5, 16) dX5_init_25 clX5 (j := 2) (by decide) tw_175 (Or.inr ⟨rfl, rfl, rfl⟩) (Or.inr ⟨_, rfl⟩) ⟨by decide +kernel, by decide +kernel⟩ rfl ?_
  refine sp_aload_n dX5_init_28 rfl rfl ?_
  refine sp_bipush (v := 6) dX5_init_29 (by decide) ?_
  refine sp_newa2 (t := 0) (N := 6) (M1 := mm_55) 7 37 (Or.inl ⟨rfl, rfl⟩) dX5_init_31 tw_143 (by decide) (by decide +kernel) (by decide) (show _ = 27 by decide +kernel) (by decide) rfl ?_
  refine sp_putP3 (M1 := mm_56) (RX5, TX5, 16) dX5_init_33 clX5 (j := 3) (by decide) tw_179 (Or.inr ⟨rfl, rfl, rfl⟩) (Or.inr ⟨_, rfl⟩) ⟨by decide +kernel, by decide +kernel⟩ rfl ?_
  refine sp_aload_n dX5_init_36 rfl rfl ?_
  refine sp_iconst (v := 5) dX5_init_37 (by decide) ?_
  refine sp_newa2 (t := 0) (N := 5) (M1 := mm_57) 6 32 (Or.inl ⟨rfl, rfl⟩) dX5_init_38 tw_143 (by decide) (by decide +kernel) (by decide) (show _ = 28 by decide +kernel) (by decide) rfl ?_
  refine sp_putP3 (M1 := mm_58) (RX5, TX5, 16) dX5_init_40 clX5 (j := 5) (by decide) tw_188 (Or.inr ⟨rfl, rfl, rfl⟩) (Or.inr ⟨_, rfl⟩) ⟨by decide +kernel, by decide +kernel⟩ rfl ?_
  refine sp_aload_n dX5_init_43 rfl rfl ?_
  refine sp_iconst (v := 5) dX5_init_44 (by decide) ?_
  refine sp_newa2 (t := 0) (N := 5) (M1 := mm_59) 5 27 (Or.inl ⟨rfl, rfl⟩) dX5_init_45 tw_143 (by decide) (by decide +kernel) (by decide) (show _ = 29 by decide +kernel) (by decide) rfl ?_
  refine sp_putP3 (M1 := mm_60) (RX5, TX5, 16) dX5_init_47 clX5 (j := 6) (by decide) tw_192 (Or.inr ⟨rfl, rfl, rfl⟩) (Or.inr ⟨_, rfl⟩) ⟨by decide +kernel, by decide +kernel⟩ rfl ?_
  refine sp_aload_n dX5_init_50 rfl rfl ?_
  refine sp_iconst (v := 5) dX5_init_51 (by decide) ?_
  refine sp_newa2 (t := 0) (N := 5) (M1 := mm_61) 4 22 (Or.inl ⟨rfl, rfl⟩) dX5_init_52 tw_143 (by decide) (by decide +kernel) (by decide) (show _ = 30 by decide +kernel) (by decide) rfl ?_
  refine sp_putP3 (M1 := mm_62) (RX5, TX5, 16) dX5_init_54 clX5 (j := 7) (by decide) tw_195 (Or.inr ⟨rfl, rfl, rfl⟩) (Or.inr ⟨_, rfl⟩) ⟨by decide +kernel, by decide +kernel⟩ rfl ?_
  refine sp_aload_n dX5_init_57 rfl rfl ?_
  refine sp_bipush (v := 6) dX5_init_58 (by decide) ?_
  refine sp_newa2 (t := 0) (N := 6) (M1 := mm_63) 3 16 (Or.inl ⟨rfl, rfl⟩) dX5_init_60 tw_143 (by decide) (by decide +kernel) (by decide) (show _ = 31 by decide +kernel) (by decide) rfl ?_
  refine sp_putP3 (M1 := mm_64) (RX5, TX5, 16) dX5_init_62 clX5 (j := 9) (by decide) tw_203 (Or.inr ⟨rfl, rfl, rfl⟩) (Or.inr ⟨_, rfl⟩) ⟨by decide +kernel, by decide +kernel⟩ rfl ?_
  refine sp_aload_n dX5_init_65 rfl rfl ?_
  refine sp_bipush (v := 6) dX5_init_66 (by decide) ?_
  refine sp_newa2 (t := 0) (N := 6) (M1 := mm_65) 2 10 (Or.inl ⟨rfl, rfl⟩) dX5_init_68 tw_143 (by decide) (by decide +kernel) (by decide) (show _ = 32 by decide +kernel) (by decide) rfl ?_
  refine sp_putP3 (M1 := mm_66) (RX5, TX5, 16) dX5_init_70 clX5 (j := 10) (by decide) tw_205 (Or.inr ⟨rfl, rfl, rfl⟩) (Or.inr ⟨_, rfl⟩) ⟨by decide +kernel, by decide +kernel⟩ rfl ?_
  refine sp_aload_n dX5_init_73 rfl rfl ?_
  refine sp_iconst (v := 4) dX5_init_74 (by decide) ?_
  refine sp_newa2 (t := 0) (N := 4) (M1 := mm_67) 1 6 (Or.inl ⟨rfl, rfl⟩) dX5_init_75 tw_143 (by decide) (by decide +kernel) (by decide) (show _ = 33 by decide +kernel) (by decide) rfl ?_
  refine sp_putP3 (M1 := mm_68) (RX5, TX5, 16) dX5_init_77 clX5 (j := 12) (by decide) tw_210 (Or.inr ⟨rfl, rfl, rfl⟩) (Or.inr ⟨_, rfl⟩) ⟨by decide +kernel, by decide +kernel⟩ rfl ?_
  refine sp_aload_n dX5_init_80 rfl rfl ?_
  refine sp_bipush (v := 6) dX5_init_81 (by decide) ?_
  refine sp_newr2 (t := 4) (N := 6) (M1 := mm_69) 0 0 (Or.inr ⟨rfl, rfl⟩) dX5_init_83 tw_163 (by decide) (by decide +kernel) (by decide) (show _ = 34 by decide +kernel) (by decide) rfl ?_
  refine sp_putP3 (M1 := mm_70) (RX5, TX5, 16) dX5_init_86 clX5 (j := 13) (by decide) tw_215 (Or.inr ⟨rfl, rfl, rfl⟩) (Or.inr ⟨_, rfl⟩) ⟨by decide +kernel, by decide +kernel⟩ rfl ?_
  refine sp_aload_n dX5_init_89 rfl rfl ?_
  refine sp_iconst (v := (-1)) dX5_init_90 (by decide) ?_
  refine sp_putI3 (M1 := mm_71) (RX5, TX5, 16) dX5_init_91 clX5 (j := 15) (by decide) tw_218 (Or.inl rfl) rfl ⟨by decide +kernel, by decide +kernel⟩ rfl ?_
  refine sp_aload_n dX5_init_94 rfl rfl ?_
  refine sp_getR (RX5, TX5, 16) dX5_init_95 clX5 (j := 12) (a := 33) (by decide) tw_210 ⟨by decide +kernel, by decide +kernel⟩ (Or.inr ⟨_, rfl⟩) (by decide +kernel) ?_
  refine sp_iconst (v := 1) dX5_init_98 (by decide) ?_
  refine sp_iconst (v := 1) dX5_init_99 (by decide) ?_
  refine sp_iast3 (j := 1) (M1 := mm_72) dX5_init_100 ⟨by decide +kernel, by decide +kernel⟩ (by unfold vp_in; decide +kernel) (by decide +kernel) rfl ?_
  exact sp_vret dX5_init_101 rfl (fun _ => hQ)
set_option maxRecDepth 100000 in
set_option maxHeartbeats 4000000 in
theorem cc_7 {g : sp_G} {Q : sp_Qt} (hQ : Q none mm_78) : sp_Mt g sp_Tr mX3_init 2 748 [.ref 35] mm_74 Q := by
  refine sp_Mt.of [some (.ref 35)] (by decide) (by simp [sp_ent, Value.category]) rfl ?_
  refine sp_aload_n dX3_init_0 rfl rfl ?_
  refine sp_objInit dX3_init_1 tw_259 tw_125 tw_126 (by decide) (by decide) ?_
  refine sp_aload_n dX3_init_4 rfl rfl ?_
  refine sp_sipush (v := 731) dX3_init_5 (by decide) ?_
  refine sp_newa2 (t := 0) (N := 731) (M1 := mm_75) 1 17 (Or.inl ⟨rfl, rfl⟩) dX3_init_8 tw_143 (by decide) (by decide +kernel) (by decide) (show _ = 36 by decide +kernel) (by decide) rfl ?_
  refine sp_putP3 (M1 := mm_76) (RX3, TX3, 4) dX3_init_10 clX3 (j := 0) (by decide) tw_260 (Or.inr ⟨rfl, rfl, rfl⟩) (Or.inr ⟨_, rfl⟩) ⟨by decide +kernel, by decide +kernel⟩ rfl ?_
  refine sp_aload_n dX3_init_13 rfl rfl ?_
  refine sp_bipush (v := 17) dX3_init_14 (by decide) ?_
  refine sp_newa2 (t := 0) (N := 17) (M1 := mm_77) 0 0 (Or.inl ⟨rfl, rfl⟩) dX3_init_16 tw_143 (by decide) (by decide +kernel) (by decide) (show _ = 37 by decide +kernel) (by decide) rfl ?_
  refine sp_putP3 (M1 := mm_78) (RX3, TX3, 4) dX3_init_18 clX3 (j := 1) (by decide) tw_261 (Or.inr ⟨rfl, rfl, rfl⟩) (Or.inr ⟨_, rfl⟩) ⟨by decide +kernel, by decide +kernel⟩ rfl ?_
  exact sp_vret dX3_init_21 rfl (fun _ => hQ)
set_option maxRecDepth 100000 in
set_option maxHeartbeats 4000000 in
theorem cc_8 {g : sp_G} {Q : sp_Qt} (hQ : Q none mm_82) : sp_Mt g sp_Tr mX7_init 16 864 [.ref 22, .ref 1] mm_47 Q := by
  refine sp_Mt.of [some (.ref 22), some (.ref 1)] (by decide) (by simp [sp_ent, Value.category]) rfl ?_
  refine sp_aload_n dX7_init_0 rfl rfl ?_
  refine sp_objInit dX7_init_1 tw_156 tw_125 tw_126 (by decide) (by decide) ?_
  refine sp_aload_n dX7_init_4 rfl rfl ?_
  refine sp_newo2 (M1 := mm_48) 15 848 (RX5, TX5, 16) dX7_init_5 clX5 tw_157 tw_158 tw_103 (show _ = 23 by decide +kernel) (by decide) rfl ?_
  refine sp_dup dX7_init_8 rfl ?_
  refine sp_cI (M1 := mm_72) (st := [.ref 23, .ref 22]) (mc1 := 11) (ms1 := 80) 4 768 [] [.ref 23, .ref 23, .ref 22] dX7_init_9 okX5_init tw_159 rfl rfl tw_160 (by decide) (by decide) rfl (Nat.le_of_ble_eq_true rfl) (by decide +kernel) rfl (fun Q hQ => cc_6 hQ) ?_
  refine sp_putP3 (M1 := mm_73) (RX7, TX7, 6) dX7_init_12 clX7 (j := 0) (by decide) tw_274 (Or.inr ⟨rfl, rfl, rfl⟩) (Or.inl ⟨_, rfl⟩) ⟨by decide +kernel, by decide +kernel⟩ rfl ?_
  refine sp_aload_n dX7_init_15 rfl rfl ?_
  refine sp_newo2 (M1 := mm_74) 3 764 (RX3, TX3, 4) dX7_init_16 clX3 tw_254 tw_255 tw_104 (show _ = 35 by decide +kernel) (by decide) rfl ?_
  refine sp_dup dX7_init_19 rfl ?_
  refine sp_cIN (M1 := mm_78) (st := [.ref 35, .ref 22]) (mc1 := 2) (ms1 := 748) 1 16 [] [.ref 35, .ref 35, .ref 22] dX7_init_20 okX3_init (by decide +kernel) rfl rfl tw_257 (by decide) (by decide) rfl (Nat.le_of_ble_eq_true rfl) (by decide +kernel) rfl (fun Q hQ => cc_7 hQ) ?_
  refine sp_putP3 (M1 := mm_79) (RX7, TX7, 6) dX7_init_23 clX7 (j := 1) (by decide) tw_276 (Or.inr ⟨rfl, rfl, rfl⟩) (Or.inl ⟨_, rfl⟩) ⟨by decide +kernel, by decide +kernel⟩ rfl ?_
  refine sp_aload_n dX7_init_26 rfl rfl ?_
  refine sp_bipush (v := 16) dX7_init_27 (by decide) ?_
  refine sp_newa2 (t := 0) (N := 16) (M1 := mm_80) 0 0 (Or.inl ⟨rfl, rfl⟩) dX7_init_29 tw_143 (by decide) (by decide +kernel) (by decide) (show _ = 38 by decide +kernel) (by decide) rfl ?_
  refine sp_putP3 (M1 := mm_81) (RX7, TX7, 6) dX7_init_31 clX7 (j := 3) (by decide) tw_279 (Or.inr ⟨rfl, rfl, rfl⟩) (Or.inr ⟨_, rfl⟩) ⟨by decide +kernel, by decide +kernel⟩ rfl ?_
  refine sp_aload_n dX7_init_34 rfl rfl ?_
  refine sp_aload_n dX7_init_35 rfl rfl ?_
  refine sp_putP3 (M1 := mm_82) (RX7, TX7, 6) dX7_init_36 clX7 (j := 2) (by decide) tw_278 (Or.inr ⟨rfl, rfl, rfl⟩) (Or.inl ⟨_, rfl⟩) ⟨by decide +kernel, by decide +kernel⟩ rfl ?_
  exact sp_vret dX7_init_39 rfl (fun _ => hQ)
set_option maxRecDepth 100000 in
set_option maxHeartbeats 4000000 in
theorem cc_9 {g : sp_G} {Q : sp_Qt} (hQ : Q none mm_109) : sp_Mt g sp_Tr mX5_init 11 80 [.ref 39] mm_85 Q := by
  refine sp_Mt.of [some (.ref 39)] (by decide) (by simp [sp_ent, Value.category]) rfl ?_
  refine sp_aload_n dX5_init_0 rfl rfl ?_
  refine sp_objInit dX5_init_1 tw_162 tw_125 tw_126 (by decide) (by decide) ?_
  refine sp_aload_n dX5_init_4 rfl rfl ?_
  refine sp_bipush (v := 25) dX5_init_5 (by decide) ?_
  refine sp_newa2 (t := 0) (N := 25) (M1 := mm_86) 10 55 (Or.inl ⟨rfl, rfl⟩) dX5_init_7 tw_143 (by decide) (by decide +kernel) (by decide) (show _ = 40 by decide +kernel) (by decide) rfl ?_
  refine sp_putP3 (M1 := mm_87) (RX5, TX5, 16) dX5_init_9 clX5 (j := 0) (by decide) tw_165 (Or.inr ⟨rfl, rfl, rfl⟩) (Or.inr ⟨_, rfl⟩) ⟨by decide +kernel, by decide +kernel⟩ rfl ?_
  refine sp_aload_n dX5_init_12 rfl rfl ?_
  refine sp_bipush (v := 6) dX5_init_13 (by decide) ?_
  refine sp_newa2 (t := 0) (N := 6) (M1 := mm_88) 9 49 (Or.inl ⟨rfl, rfl⟩) dX5_init_15 tw_143 (by decide) (by decide +kernel) (by decide) (show _ = 41 by decide +kernel) (by decide) rfl ?_
  refine sp_putP3 (M1 := mm_89) (RX5, TX5, 16) dX5_init_17 clX5 (j := 1) (by decide) tw_169 (Or.inr ⟨rfl, rfl, rfl⟩) (Or.inr ⟨_, rfl⟩) ⟨by decide +kernel, by decide +kernel⟩ rfl ?_
  refine sp_aload_n dX5_init_20 rfl rfl ?_
  refine sp_bipush (v := 6) dX5_init_21 (by decide) ?_
  refine sp_newa2 (t := 0) (N := 6) (M1 := mm_90) 8 43 (Or.inl ⟨rfl, rfl⟩) dX5_init_23 tw_143 (by decide) (by decide +kernel) (by decide) (show _ = 42 by decide +kernel) (by decide) rfl ?_
  refine sp_putP3 (M1 := mm_91) (RX5, TX5, 16) dX5_init_25 clX5 (j := 2) (by decide) tw_175 (Or.inr ⟨rfl, rfl, rfl⟩) (Or.inr ⟨_, rfl⟩) ⟨by decide +kernel, by decide +kernel⟩ rfl ?_
  refine sp_aload_n dX5_init_28 rfl rfl ?_
  refine sp_bipush (v := 6) dX5_init_29 (by decide) ?_
  refine sp_newa2 (t := 0) (N := 6) (M1 := mm_92) 7 37 (Or.inl ⟨rfl, rfl⟩) dX5_init_31 tw_143 (by decide) (by decide +kernel) (by decide) (show _ = 43 by decide +kernel) (by decide) rfl ?_
  refine sp_putP3 (M1 := mm_93) (RX5, TX5, 16) dX5_init_33 clX5 (j := 3) (by decide) tw_179 (Or.inr ⟨rfl, rfl, rfl⟩) (Or.inr ⟨_, rfl⟩) ⟨by decide +kernel, by decide +kernel⟩ rfl ?_
  refine sp_aload_n dX5_init_36 rfl rfl ?_
  refine sp_iconst (v := 5) dX5_init_37 (by decide) ?_
  refine sp_newa2 (t := 0) (N := 5) (M1 := mm_94) 6 32 (Or.inl ⟨rfl, rfl⟩) dX5_init_38 tw_143 (by decide) (by decide +kernel) (by decide) (show _ = 44 by decide +kernel) (by decide) rfl ?_
  refine sp_putP3 (M1 := mm_95) (RX5, TX5, 16) dX5_init_40 clX5 (j := 5) (by decide) tw_188 (Or.inr ⟨rfl, rfl, rfl⟩) (Or.inr ⟨_, rfl⟩) ⟨by decide +kernel, by decide +kernel⟩ rfl ?_
  refine sp_aload_n dX5_init_43 rfl rfl ?_
  refine sp_iconst (v := 5) dX5_init_44 (by decide) ?_
  refine sp_newa2 (t := 0) (N := 5) (M1 := mm_96) 5 27 (Or.inl ⟨rfl, rfl⟩) dX5_init_45 tw_143 (by decide) (by decide +kernel) (by decide) (show _ = 45 by decide +kernel) (by decide) rfl ?_
  refine sp_putP3 (M1 := mm_97) (RX5, TX5, 16) dX5_init_47 clX5 (j := 6) (by decide) tw_192 (Or.inr ⟨rfl, rfl, rfl⟩) (Or.inr ⟨_, rfl⟩) ⟨by decide +kernel, by decide +kernel⟩ rfl ?_
  refine sp_aload_n dX5_init_50 rfl rfl ?_
  refine sp_iconst (v := 5) dX5_init_51 (by decide) ?_
  refine sp_newa2 (t := 0) (N := 5) (M1 := mm_98) 4 22 (Or.inl ⟨rfl, rfl⟩) dX5_init_52 tw_143 (by decide) (by decide +kernel) (by decide) (show _ = 46 by decide +kernel) (by decide) rfl ?_
  refine sp_putP3 (M1 := mm_99) (RX5, TX5, 16) dX5_init_54 clX5 (j := 7) (by decide) tw_195 (Or.inr ⟨rfl, rfl, rfl⟩) (Or.inr ⟨_, rfl⟩) ⟨by decide +kernel, by decide +kernel⟩ rfl ?_
  refine sp_aload_n dX5_init_57 rfl rfl ?_
  refine sp_bipush (v := 6) dX5_init_58 (by decide) ?_
  refine sp_newa2 (t := 0) (N := 6) (M1 := mm_100) 3 16 (Or.inl ⟨rfl, rfl⟩) dX5_init_60 tw_143 (by decide) (by decide +kernel) (by decide) (show _ = 47 by decide +kernel) (by decide) rfl ?_
  refine sp_putP3 (M1 := mm_101) (RX5, TX5, 16) dX5_init_62 clX5 (j := 9) (by decide) tw_203 (Or.inr ⟨rfl, rfl, rfl⟩) (Or.inr ⟨_, rfl⟩) ⟨by decide +kernel, by decide +kernel⟩ rfl ?_
  refine sp_aload_n dX5_init_65 rfl rfl ?_
  refine sp_bipush (v := 6) dX5_init_66 (by decide) ?_
  refine sp_newa2 (t := 0) (N := 6) (M1 := mm_102) 2 10 (Or.inl ⟨rfl, rfl⟩) dX5_init_68 tw_143 (by decide) (by decide +kernel) (by decide) (show _ = 48 by decide +kernel) (by decide) rfl ?_
  refine sp_putP3 (M1 := mm_103) (RX5, TX5, 16) dX5_init_70 clX5 (j := 10) (by decide) tw_205 (Or.inr ⟨rfl, rfl, rfl⟩) (Or.inr ⟨_, rfl⟩) ⟨by decide +kernel, by decide +kernel⟩ rfl ?_
  refine sp_aload_n dX5_init_73 rfl rfl ?_
  refine sp_iconst (v := 4) dX5_init_74 (by decide) ?_
  refine sp_newa2 (t := 0) (N := 4) (M1 := mm_104) 1 6 (Or.inl ⟨rfl, rfl⟩) dX5_init_75 tw_143 (by decide) (by decide +kernel) (by decide) (show _ = 49 by decide +kernel) (by decide) rfl ?_
  refine sp_putP3 (M1 := mm_105) (RX5, TX5, 16) dX5_init_77 clX5 (j := 12) (by decide) tw_210 (Or.inr ⟨rfl, rfl, rfl⟩) (Or.inr ⟨_, rfl⟩) ⟨by decide +kernel, by decide +kernel⟩ rfl ?_
  refine sp_aload_n dX5_init_80 rfl rfl ?_
  refine sp_bipush (v := 6) dX5_init_81 (by decide) ?_
  refine sp_newr2 (t := 4) (N := 6) (M1 := mm_106) 0 0 (Or.inr ⟨rfl, rfl⟩) dX5_init_83 tw_163 (by decide) (by decide +kernel) (by decide) (show _ = 50 by decide +kernel) (by decide) rfl ?_
  refine sp_putP3 (M1 := mm_107) (RX5, TX5, 16) dX5_init_86 clX5 (j := 13) (by decide) tw_215 (Or.inr ⟨rfl, rfl, rfl⟩) (Or.inr ⟨_, rfl⟩) ⟨by decide +kernel, by decide +kernel⟩ rfl ?_
  refine sp_aload_n dX5_init_89 rfl rfl ?_
  refine sp_iconst (v := (-1)) dX5_init_90 (by decide) ?_
  refine sp_putI3 (M1 := mm_108) (RX5, TX5, 16) dX5_init_91 clX5 (j := 15) (by decide) tw_218 (Or.inl rfl) rfl ⟨by decide +kernel, by decide +kernel⟩ rfl ?_
  refine sp_aload_n dX5_init_94 rfl rfl ?_
  refine sp_getR (RX5, TX5, 16) dX5_init_95 clX5 (j := 12) (a := 49) (by decide) tw_210 ⟨by decide +kernel, by decide +kernel⟩ (Or.inr ⟨_, rfl⟩) (by decide +kernel) ?_
  refine sp_iconst (v := 1) dX5_init_98 (by decide) ?_
  refine sp_iconst (v := 1) dX5_init_99 (by decide) ?_
  refine sp_iast3 (j := 1) (M1 := mm_109) dX5_init_100 ⟨by decide +kernel, by decide +kernel⟩ (by unfold vp_in; decide +kernel) (by decide +kernel) rfl ?_
  exact sp_vret dX5_init_101 rfl (fun _ => hQ)
set_option maxRecDepth 100000 in
set_option maxHeartbeats 4000000 in
theorem cc_10 {g : sp_G} {Q : sp_Qt} (hQ : Q none mm_137) : sp_Mt g sp_Tr mX5_init 11 80 [.ref 52] mm_113 Q := by
  refine sp_Mt.of [some (.ref 52)] (by decide) (by simp [sp_ent, Value.category]) rfl ?_
  refine sp_aload_n dX5_init_0 rfl rfl ?_
  refine sp_objInit dX5_init_1 tw_162 tw_125 tw_126 (by decide) (by decide) ?_
  refine sp_aload_n dX5_init_4 rfl rfl ?_
  refine sp_bipush (v := 25) dX5_init_5 (by decide) ?_
  refine sp_newa2 (t := 0) (N := 25) (M1 := mm_114) 10 55 (Or.inl ⟨rfl, rfl⟩) dX5_init_7 tw_143 (by decide) (by decide +kernel) (by decide) (show _ = 53 by decide +kernel) (by decide) rfl ?_
  refine sp_putP3 (M1 := mm_115) (RX5, TX5, 16) dX5_init_9 clX5 (j := 0) (by decide) tw_165 (Or.inr ⟨rfl, rfl, rfl⟩) (Or.inr ⟨_, rfl⟩) ⟨by decide +kernel, by decide +kernel⟩ rfl ?_
  refine sp_aload_n dX5_init_12 rfl rfl ?_
  refine sp_bipush (v := 6) dX5_init_13 (by decide) ?_
  refine sp_newa2 (t := 0) (N := 6) (M1 := mm_116) 9 49 (Or.inl ⟨rfl, rfl⟩) dX5_init_15 tw_143 (by decide) (by decide +kernel) (by decide) (show _ = 54 by decide +kernel) (by decide) rfl ?_
  refine sp_putP3 (M1 := mm_117) (RX5, TX5, 16) dX5_init_17 clX5 (j := 1) (by decide) tw_169 (Or.inr ⟨rfl, rfl, rfl⟩) (Or.inr ⟨_, rfl⟩) ⟨by decide +kernel, by decide +kernel⟩ rfl ?_
  refine sp_aload_n dX5_init_20 rfl rfl ?_
  refine sp_bipush (v := 6) dX5_init_21 (by decide) ?_
  refine sp_newa2 (t := 0) (N := 6) (M1 := mm_118) 8 43 (Or.inl ⟨rfl, rfl⟩) dX5_init_23 tw_143 (by decide) (by decide +kernel) (by decide) (show _ = 55 by decide +kernel) (by decide) rfl ?_
  refine sp_putP3 (M1 := mm_119) (RX5, TX5, 16) dX5_init_25 clX5 (j := 2) (by decide) tw_175 (Or.inr ⟨rfl, rfl, rfl⟩) (Or.inr ⟨_, rfl⟩) ⟨by decide +kernel, by decide +kernel⟩ rfl ?_
  refine sp_aload_n dX5_init_28 rfl rfl ?_
  refine sp_bipush (v := 6) dX5_init_29 (by decide) ?_
  refine sp_newa2 (t := 0) (N := 6) (M1 := mm_120) 7 37 (Or.inl ⟨rfl, rfl⟩) dX5_init_31 tw_143 (by decide) (by decide +kernel) (by decide) (show _ = 56 by decide +kernel) (by decide) rfl ?_
  refine sp_putP3 (M1 := mm_121) (RX5, TX5, 16) dX5_init_33 clX5 (j := 3) (by decide) tw_179 (Or.inr ⟨rfl, rfl, rfl⟩) (Or.inr ⟨_, rfl⟩) ⟨by decide +kernel, by decide +kernel⟩ rfl ?_
  refine sp_aload_n dX5_init_36 rfl rfl ?_
  refine sp_iconst (v := 5) dX5_init_37 (by decide) ?_
  refine sp_newa2 (t := 0) (N := 5) (M1 := mm_122) 6 32 (Or.inl ⟨rfl, rfl⟩) dX5_init_38 tw_143 (by decide) (by decide +kernel) (by decide) (show _ = 57 by decide +kernel) (by decide) rfl ?_
  refine sp_putP3 (M1 := mm_123) (RX5, TX5, 16) dX5_init_40 clX5 (j := 5) (by decide) tw_188 (Or.inr ⟨rfl, rfl, rfl⟩) (Or.inr ⟨_, rfl⟩) ⟨by decide +kernel, by decide +kernel⟩ rfl ?_
  refine sp_aload_n dX5_init_43 rfl rfl ?_
  refine sp_iconst (v := 5) dX5_init_44 (by decide) ?_
  refine sp_newa2 (t := 0) (N := 5) (M1 := mm_124) 5 27 (Or.inl ⟨rfl, rfl⟩) dX5_init_45 tw_143 (by decide) (by decide +kernel) (by decide) (show _ = 58 by decide +kernel) (by decide) rfl ?_
  refine sp_putP3 (M1 := mm_125) (RX5, TX5, 16) dX5_init_47 clX5 (j := 6) (by decide) tw_192 (Or.inr ⟨rfl, rfl, rfl⟩) (Or.inr ⟨_, rfl⟩) ⟨by decide +kernel, by decide +kernel⟩ rfl ?_
  refine sp_aload_n dX5_init_50 rfl rfl ?_
  refine sp_iconst (v := 5) dX5_init_51 (by decide) ?_
  refine sp_newa2 (t := 0) (N := 5) (M1 := mm_126) 4 22 (Or.inl ⟨rfl, rfl⟩) dX5_init_52 tw_143 (by decide) (by decide +kernel) (by decide) (show _ = 59 by decide +kernel) (by decide) rfl ?_
  refine sp_putP3 (M1 := mm_127) (RX5, TX5, 16) dX5_init_54 clX5 (j := 7) (by decide) tw_195 (Or.inr ⟨rfl, rfl, rfl⟩) (Or.inr ⟨_, rfl⟩) ⟨by decide +kernel, by decide +kernel⟩ rfl ?_
  refine sp_aload_n dX5_init_57 rfl rfl ?_
  refine sp_bipush (v := 6) dX5_init_58 (by decide) ?_
  refine sp_newa2 (t := 0) (N := 6) (M1 := mm_128) 3 16 (Or.inl ⟨rfl, rfl⟩) dX5_init_60 tw_143 (by decide) (by decide +kernel) (by decide) (show _ = 60 by decide +kernel) (by decide) rfl ?_
  refine sp_putP3 (M1 := mm_129) (RX5, TX5, 16) dX5_init_62 clX5 (j := 9) (by decide) tw_203 (Or.inr ⟨rfl, rfl, rfl⟩) (Or.inr ⟨_, rfl⟩) ⟨by decide +kernel, by decide +kernel⟩ rfl ?_
  refine sp_aload_n dX5_init_65 rfl rfl ?_
  refine sp_bipush (v := 6) dX5_init_66 (by decide) ?_
  refine sp_newa2 (t := 0) (N := 6) (M1 := mm_130) 2 10 (Or.inl ⟨rfl, rfl⟩) dX5_init_68 tw_143 (by decide) (by decide +kernel) (by decide) (show _ = 61 by decide +kernel) (by decide) rfl ?_
  refine sp_putP3 (M1 := mm_131) (RX5, TX5, 16) dX5_init_70 clX5 (j := 10) (by decide) tw_205 (Or.inr ⟨rfl, rfl, rfl⟩) (Or.inr ⟨_, rfl⟩) ⟨by decide +kernel, by decide +kernel⟩ rfl ?_
  refine sp_aload_n dX5_init_73 rfl rfl ?_
  refine sp_iconst (v := 4) dX5_init_74 (by decide) ?_
  refine sp_newa2 (t := 0) (N := 4) (M1 := mm_132) 1 6 (Or.inl ⟨rfl, rfl⟩) dX5_init_75 tw_143 (by decide) (by decide +kernel) (by decide) (show _ = 62 by decide +kernel) (by decide) rfl ?_
  refine sp_putP3 (M1 := mm_133) (RX5, TX5, 16) dX5_init_77 clX5 (j := 12) (by decide) tw_210 (Or.inr ⟨rfl, rfl, rfl⟩) (Or.inr ⟨_, rfl⟩) ⟨by decide +kernel, by decide +kernel⟩ rfl ?_
  refine sp_aload_n dX5_init_80 rfl rfl ?_
  refine sp_bipush (v := 6) dX5_init_81 (by decide) ?_
  refine sp_newr2 (t := 4) (N := 6) (M1 := mm_134) 0 0 (Or.inr ⟨rfl, rfl⟩) dX5_init_83 tw_163 (by decide) (by decide +kernel) (by decide) (show _ = 63 by decide +kernel) (by decide) rfl ?_
  refine sp_putP3 (M1 := mm_135) (RX5, TX5, 16) dX5_init_86 clX5 (j := 13) (by decide) tw_215 (Or.inr ⟨rfl, rfl, rfl⟩) (Or.inr ⟨_, rfl⟩) ⟨by decide +kernel, by decide +kernel⟩ rfl ?_
  refine sp_aload_n dX5_init_89 rfl rfl ?_
  refine sp_iconst (v := (-1)) dX5_init_90 (by decide) ?_
  refine sp_putI3 (M1 := mm_136) (RX5, TX5, 16) dX5_init_91 clX5 (j := 15) (by decide) tw_218 (Or.inl rfl) rfl ⟨by decide +kernel, by decide +kernel⟩ rfl ?_
  refine sp_aload_n dX5_init_94 rfl rfl ?_
  refine sp_getR (RX5, TX5, 16) dX5_init_95 clX5 (j := 12) (a := 62) (by decide) tw_210 ⟨by decide +kernel, by decide +kernel⟩ (Or.inr ⟨_, rfl⟩) (by decide +kernel) ?_
  refine sp_iconst (v := 1) dX5_init_98 (by decide) ?_
  refine sp_iconst (v := 1) dX5_init_99 (by decide) ?_
  refine sp_iast3 (j := 1) (M1 := mm_137) dX5_init_100 ⟨by decide +kernel, by decide +kernel⟩ (by unfold vp_in; decide +kernel) (by decide +kernel) rfl ?_
  exact sp_vret dX5_init_101 rfl (fun _ => hQ)
set_option maxRecDepth 100000 in
set_option maxHeartbeats 4000000 in
theorem cc_11 {g : sp_G} {Q : sp_Qt} (hQ : Q none mm_163) : sp_Mt g sp_Tr mX5_init 11 80 [.ref 64] mm_139 Q := by
  refine sp_Mt.of [some (.ref 64)] (by decide) (by simp [sp_ent, Value.category]) rfl ?_
  refine sp_aload_n dX5_init_0 rfl rfl ?_
  refine sp_objInit dX5_init_1 tw_162 tw_125 tw_126 (by decide) (by decide) ?_
  refine sp_aload_n dX5_init_4 rfl rfl ?_
  refine sp_bipush (v := 25) dX5_init_5 (by decide) ?_
  refine sp_newa2 (t := 0) (N := 25) (M1 := mm_140) 10 55 (Or.inl ⟨rfl, rfl⟩) dX5_init_7 tw_143 (by decide) (by decide +kernel) (by decide) (show _ = 65 by decide +kernel) (by decide) rfl ?_
  refine sp_putP3 (M1 := mm_141) (RX5, TX5, 16) dX5_init_9 clX5 (j := 0) (by decide) tw_165 (Or.inr ⟨rfl, rfl, rfl⟩) (Or.inr ⟨_, rfl⟩) ⟨by decide +kernel, by decide +kernel⟩ rfl ?_
  refine sp_aload_n dX5_init_12 rfl rfl ?_
  refine sp_bipush (v := 6) dX5_init_13 (by decide) ?_
  refine sp_newa2 (t := 0) (N := 6) (M1 := mm_142) 9 49 (Or.inl ⟨rfl, rfl⟩) dX5_init_15 tw_143 (by decide) (by decide +kernel) (by decide) (show _ = 66 by decide +kernel) (by decide) rfl ?_
  refine sp_putP3 (M1 := mm_143) (RX5, TX5, 16) dX5_init_17 clX5 (j := 1) (by decide) tw_169 (Or.inr ⟨rfl, rfl, rfl⟩) (Or.inr ⟨_, rfl⟩) ⟨by decide +kernel, by decide +kernel⟩ rfl ?_
  refine sp_aload_n dX5_init_20 rfl rfl ?_
  refine sp_bipush (v := 6) dX5_init_21 (by decide) ?_
  refine sp_newa2 (t := 0) (N := 6) (M1 := mm_144) 8 43 (Or.inl ⟨rfl, rfl⟩) dX5_init_23 tw_143 (by decide) (by decide +kernel) (by decide) (show _ = 67 by decide +kernel) (by decide) rfl ?_
  refine sp_putP3 (M1 := mm_145) (RX5, TX5, 16) dX5_init_25 clX5 (j := 2) (by decide) tw_175 (Or.inr ⟨rfl, rfl, rfl⟩) (Or.inr ⟨_, rfl⟩) ⟨by decide +kernel, by decide +kernel⟩ rfl ?_
  refine sp_aload_n dX5_init_28 rfl rfl ?_
  refine sp_bipush (v := 6) dX5_init_29 (by decide) ?_
  refine sp_newa2 (t := 0) (N := 6) (M1 := mm_146) 7 37 (Or.inl ⟨rfl, rfl⟩) dX5_init_31 tw_143 (by decide) (by decide +kernel) (by decide) (show _ = 68 by decide +kernel) (by decide) rfl ?_
  refine sp_putP3 (M1 := mm_147) (RX5, TX5, 16) dX5_init_33 clX5 (j := 3) (by decide) tw_179 (Or.inr ⟨rfl, rfl, rfl⟩) (Or.inr ⟨_, rfl⟩) ⟨by decide +kernel, by decide +kernel⟩ rfl ?_
  refine sp_aload_n dX5_init_36 rfl rfl ?_
  refine sp_iconst (v := 5) dX5_init_37 (by decide) ?_
  refine sp_newa2 (t := 0) (N := 5) (M1 := mm_148) 6 32 (Or.inl ⟨rfl, rfl⟩) dX5_init_38 tw_143 (by decide) (by decide +kernel) (by decide) (show _ = 69 by decide +kernel) (by decide) rfl ?_
  refine sp_putP3 (M1 := mm_149) (RX5, TX5, 16) dX5_init_40 clX5 (j := 5) (by decide) tw_188 (Or.inr ⟨rfl, rfl, rfl⟩) (Or.inr ⟨_, rfl⟩) ⟨by decide +kernel, by decide +kernel⟩ rfl ?_
  refine sp_aload_n dX5_init_43 rfl rfl ?_
  refine sp_iconst (v := 5) dX5_init_44 (by decide) ?_
  refine sp_newa2 (t := 0) (N := 5) (M1 := mm_150) 5 27 (Or.inl ⟨rfl, rfl⟩) dX5_init_45 tw_143 (by decide) (by decide +kernel) (by decide) (show _ = 70 by decide +kernel) (by decide) rfl ?_
  refine sp_putP3 (M1 := mm_151) (RX5, TX5, 16) dX5_init_47 clX5 (j := 6) (by decide) tw_192 (Or.inr ⟨rfl, rfl, rfl⟩) (Or.inr ⟨_, rfl⟩) ⟨by decide +kernel, by decide +kernel⟩ rfl ?_
  refine sp_aload_n dX5_init_50 rfl rfl ?_
  refine sp_iconst (v := 5) dX5_init_51 (by decide) ?_
  refine sp_newa2 (t := 0) (N := 5) (M1 := mm_152) 4 22 (Or.inl ⟨rfl, rfl⟩) dX5_init_52 tw_143 (by decide) (by decide +kernel) (by decide) (show _ = 71 by decide +kernel) (by decide) rfl ?_
  refine sp_putP3 (M1 := mm_153) (RX5, TX5, 16) dX5_init_54 clX5 (j := 7) (by decide) tw_195 (Or.inr ⟨rfl, rfl, rfl⟩) (Or.inr ⟨_, rfl⟩) ⟨by decide +kernel, by decide +kernel⟩ rfl ?_
  refine sp_aload_n dX5_init_57 rfl rfl ?_
  refine sp_bipush (v := 6) dX5_init_58 (by decide) ?_
  refine sp_newa2 (t := 0) (N := 6) (M1 := mm_154) 3 16 (Or.inl ⟨rfl, rfl⟩) dX5_init_60 tw_143 (by decide) (by decide +kernel) (by decide) (show _ = 72 by decide +kernel) (by decide) rfl ?_
  refine sp_putP3 (M1 := mm_155) (RX5, TX5, 16) dX5_init_62 clX5 (j := 9) (by decide) tw_203 (Or.inr ⟨rfl, rfl, rfl⟩) (Or.inr ⟨_, rfl⟩) ⟨by decide +kernel, by decide +kernel⟩ rfl ?_
  refine sp_aload_n dX5_init_65 rfl rfl ?_
  refine sp_bipush (v := 6) dX5_init_66 (by decide) ?_
  refine sp_newa2 (t := 0) (N := 6) (M1 := mm_156) 2 10 (Or.inl ⟨rfl, rfl⟩) dX5_init_68 tw_143 (by decide) (by decide +kernel) (by decide) (show _ = 73 by decide +kernel) (by decide) rfl ?_
  refine sp_putP3 (M1 := mm_157) (RX5, TX5, 16) dX5_init_70 clX5 (j := 10) (by decide) tw_205 (Or.inr ⟨rfl, rfl, rfl⟩) (Or.inr ⟨_, rfl⟩) ⟨by decide +kernel, by decide +kernel⟩ rfl ?_
  refine sp_aload_n dX5_init_73 rfl rfl ?_
  refine sp_iconst (v := 4) dX5_init_74 (by decide) ?_
  refine sp_newa2 (t := 0) (N := 4) (M1 := mm_158) 1 6 (Or.inl ⟨rfl, rfl⟩) dX5_init_75 tw_143 (by decide) (by decide +kernel) (by decide) (show _ = 74 by decide +kernel) (by decide) rfl ?_
  refine sp_putP3 (M1 := mm_159) (RX5, TX5, 16) dX5_init_77 clX5 (j := 12) (by decide) tw_210 (Or.inr ⟨rfl, rfl, rfl⟩) (Or.inr ⟨_, rfl⟩) ⟨by decide +kernel, by decide +kernel⟩ rfl ?_
  refine sp_aload_n dX5_init_80 rfl rfl ?_
  refine sp_bipush (v := 6) dX5_init_81 (by decide) ?_
  refine sp_newr2 (t := 4) (N := 6) (M1 := mm_160) 0 0 (Or.inr ⟨rfl, rfl⟩) dX5_init_83 tw_163 (by decide) (by decide +kernel) (by decide) (show _ = 75 by decide +kernel) (by decide) rfl ?_
  refine sp_putP3 (M1 := mm_161) (RX5, TX5, 16) dX5_init_86 clX5 (j := 13) (by decide) tw_215 (Or.inr ⟨rfl, rfl, rfl⟩) (Or.inr ⟨_, rfl⟩) ⟨by decide +kernel, by decide +kernel⟩ rfl ?_
  refine sp_aload_n dX5_init_89 rfl rfl ?_
  refine sp_iconst (v := (-1)) dX5_init_90 (by decide) ?_
  refine sp_putI3 (M1 := mm_162) (RX5, TX5, 16) dX5_init_91 clX5 (j := 15) (by decide) tw_218 (Or.inl rfl) rfl ⟨by decide +kernel, by decide +kernel⟩ rfl ?_
  refine sp_aload_n dX5_init_94 rfl rfl ?_
  refine sp_getR (RX5, TX5, 16) dX5_init_95 clX5 (j := 12) (a := 74) (by decide) tw_210 ⟨by decide +kernel, by decide +kernel⟩ (Or.inr ⟨_, rfl⟩) (by decide +kernel) ?_
  refine sp_iconst (v := 1) dX5_init_98 (by decide) ?_
  refine sp_iconst (v := 1) dX5_init_99 (by decide) ?_
  refine sp_iast3 (j := 1) (M1 := mm_163) dX5_init_100 ⟨by decide +kernel, by decide +kernel⟩ (by unfold vp_in; decide +kernel) (by decide +kernel) rfl ?_
  exact sp_vret dX5_init_101 rfl (fun _ => hQ)
set_option maxRecDepth 100000 in
set_option maxHeartbeats 4000000 in
theorem cc_12 {g : sp_G} {Q : sp_Qt} (hQ : Q none mm_192) : sp_Mt g sp_Tr mX5_init 11 80 [.ref 78] mm_168 Q := by
  refine sp_Mt.of [some (.ref 78)] (by decide) (by simp [sp_ent, Value.category]) rfl ?_
  refine sp_aload_n dX5_init_0 rfl rfl ?_
  refine sp_objInit dX5_init_1 tw_162 tw_125 tw_126 (by decide) (by decide) ?_
  refine sp_aload_n dX5_init_4 rfl rfl ?_
  refine sp_bipush (v := 25) dX5_init_5 (by decide) ?_
  refine sp_newa2 (t := 0) (N := 25) (M1 := mm_169) 10 55 (Or.inl ⟨rfl, rfl⟩) dX5_init_7 tw_143 (by decide) (by decide +kernel) (by decide) (show _ = 79 by decide +kernel) (by decide) rfl ?_
  refine sp_putP3 (M1 := mm_170) (RX5, TX5, 16) dX5_init_9 clX5 (j := 0) (by decide) tw_165 (Or.inr ⟨rfl, rfl, rfl⟩) (Or.inr ⟨_, rfl⟩) ⟨by decide +kernel, by decide +kernel⟩ rfl ?_
  refine sp_aload_n dX5_init_12 rfl rfl ?_
  refine sp_bipush (v := 6) dX5_init_13 (by decide) ?_
  refine sp_newa2 (t := 0) (N := 6) (M1 := mm_171) 9 49 (Or.inl ⟨rfl, rfl⟩) dX5_init_15 tw_143 (by decide) (by decide +kernel) (by decide) (show _ = 80 by decide +kernel) (by decide) rfl ?_
  refine sp_putP3 (M1 := mm_172) (RX5, TX5, 16) dX5_init_17 clX5 (j := 1) (by decide) tw_169 (Or.inr ⟨rfl, rfl, rfl⟩) (Or.inr ⟨_, rfl⟩) ⟨by decide +kernel, by decide +kernel⟩ rfl ?_
  refine sp_aload_n dX5_init_20 rfl rfl ?_
  refine sp_bipush (v := 6) dX5_init_21 (by decide) ?_
  refine sp_newa2 (t := 0) (N := 6) (M1 := mm_173) 8 43 (Or.inl ⟨rfl, rfl⟩) dX5_init_23 tw_143 (by decide) (by decide +kernel) (by decide) (show _ = 81 by decide +kernel) (by decide) rfl ?_
  refine sp_putP3 (M1 := mm_174) (RX5, TX5, 16) dX5_init_25 clX5 (j := 2) (by decide) tw_175 (Or.inr ⟨rfl, rfl, rfl⟩) (Or.inr ⟨_, rfl⟩) ⟨by decide +kernel, by decide +kernel⟩ rfl ?_
  refine sp_aload_n dX5_init_28 rfl rfl ?_
  refine sp_bipush (v := 6) dX5_init_29 (by decide) ?_
  refine sp_newa2 (t := 0) (N := 6) (M1 := mm_175) 7 37 (Or.inl ⟨rfl, rfl⟩) dX5_init_31 tw_143 (by decide) (by decide +kernel) (by decide) (show _ = 82 by decide +kernel) (by decide) rfl ?_
  refine sp_putP3 (M1 := mm_176) (RX5, TX5, 16) dX5_init_33 clX5 (j := 3) (by decide) tw_179 (Or.inr ⟨rfl, rfl, rfl⟩) (Or.inr ⟨_, rfl⟩) ⟨by decide +kernel, by decide +kernel⟩ rfl ?_
  refine sp_aload_n dX5_init_36 rfl rfl ?_
  refine sp_iconst (v := 5) dX5_init_37 (by decide) ?_
  refine sp_newa2 (t := 0) (N := 5) (M1 := mm_177) 6 32 (Or.inl ⟨rfl, rfl⟩) dX5_init_38 tw_143 (by decide) (by decide +kernel) (by decide) (show _ = 83 by decide +kernel) (by decide) rfl ?_
  refine sp_putP3 (M1 := mm_178) (RX5, TX5, 16) dX5_init_40 clX5 (j := 5) (by decide) tw_188 (Or.inr ⟨rfl, rfl, rfl⟩) (Or.inr ⟨_, rfl⟩) ⟨by decide +kernel, by decide +kernel⟩ rfl ?_
  refine sp_aload_n dX5_init_43 rfl rfl ?_
  refine sp_iconst (v := 5) dX5_init_44 (by decide) ?_
  refine sp_newa2 (t := 0) (N := 5) (M1 := mm_179) 5 27 (Or.inl ⟨rfl, rfl⟩) dX5_init_45 tw_143 (by decide) (by decide +kernel) (by decide) (show _ = 84 by decide +kernel) (by decide) rfl ?_
  refine sp_putP3 (M1 := mm_180) (RX5, TX5, 16) dX5_init_47 clX5 (j := 6) (by decide) tw_192 (Or.inr ⟨rfl, rfl, rfl⟩) (Or.inr ⟨_, rfl⟩) ⟨by decide +kernel, by decide +kernel⟩ rfl ?_
  refine sp_aload_n dX5_init_50 rfl rfl ?_
  refine sp_iconst (v := 5) dX5_init_51 (by decide) ?_
  refine sp_newa2 (t := 0) (N := 5) (M1 := mm_181) 4 22 (Or.inl ⟨rfl, rfl⟩) dX5_init_52 tw_143 (by decide) (by decide +kernel) (by decide) (show _ = 85 by decide +kernel) (by decide) rfl ?_
  refine sp_putP3 (M1 := mm_182) (RX5, TX5, 16) dX5_init_54 clX5 (j := 7) (by decide) tw_195 (Or.inr ⟨rfl, rfl, rfl⟩) (Or.inr ⟨_, rfl⟩) ⟨by decide +kernel, by decide +kernel⟩ rfl ?_
  refine sp_aload_n dX5_init_57 rfl rfl ?_
  refine sp_bipush (v := 6) dX5_init_58 (by decide) ?_
  refine sp_newa2 (t := 0) (N := 6) (M1 := mm_183) 3 16 (Or.inl ⟨rfl, rfl⟩) dX5_init_60 tw_143 (by decide) (by decide +kernel) (by decide) (show _ = 86 by decide +kernel) (by decide) rfl ?_
  refine sp_putP3 (M1 := mm_184) (RX5, TX5, 16) dX5_init_62 clX5 (j := 9) (by decide) tw_203 (Or.inr ⟨rfl, rfl, rfl⟩) (Or.inr ⟨_, rfl⟩) ⟨by decide +kernel, by decide +kernel⟩ rfl ?_
  refine sp_aload_n dX5_init_65 rfl rfl ?_
  refine sp_bipush (v := 6) dX5_init_66 (by decide) ?_
  refine sp_newa2 (t := 0) (N := 6) (M1 := mm_185) 2 10 (Or.inl ⟨rfl, rfl⟩) dX5_init_68 tw_143 (by decide) (by decide +kernel) (by decide) (show _ = 87 by decide +kernel) (by decide) rfl ?_
  refine sp_putP3 (M1 := mm_186) (RX5, TX5, 16) dX5_init_70 clX5 (j := 10) (by decide) tw_205 (Or.inr ⟨rfl, rfl, rfl⟩) (Or.inr ⟨_, rfl⟩) ⟨by decide +kernel, by decide +kernel⟩ rfl ?_
  refine sp_aload_n dX5_init_73 rfl rfl ?_
  refine sp_iconst (v := 4) dX5_init_74 (by decide) ?_
  refine sp_newa2 (t := 0) (N := 4) (M1 := mm_187) 1 6 (Or.inl ⟨rfl, rfl⟩) dX5_init_75 tw_143 (by decide) (by decide +kernel) (by decide) (show _ = 88 by decide +kernel) (by decide) rfl ?_
  refine sp_putP3 (M1 := mm_188) (RX5, TX5, 16) dX5_init_77 clX5 (j := 12) (by decide) tw_210 (Or.inr ⟨rfl, rfl, rfl⟩) (Or.inr ⟨_, rfl⟩) ⟨by decide +kernel, by decide +kernel⟩ rfl ?_
  refine sp_aload_n dX5_init_80 rfl rfl ?_
  refine sp_bipush (v := 6) dX5_init_81 (by decide) ?_
  refine sp_newr2 (t := 4) (N := 6) (M1 := mm_189) 0 0 (Or.inr ⟨rfl, rfl⟩) dX5_init_83 tw_163 (by decide) (by decide +kernel) (by decide) (show _ = 89 by decide +kernel) (by decide) rfl ?_
  refine sp_putP3 (M1 := mm_190) (RX5, TX5, 16) dX5_init_86 clX5 (j := 13) (by decide) tw_215 (Or.inr ⟨rfl, rfl, rfl⟩) (Or.inr ⟨_, rfl⟩) ⟨by decide +kernel, by decide +kernel⟩ rfl ?_
  refine sp_aload_n dX5_init_89 rfl rfl ?_
  refine sp_iconst (v := (-1)) dX5_init_90 (by decide) ?_
  refine sp_putI3 (M1 := mm_191) (RX5, TX5, 16) dX5_init_91 clX5 (j := 15) (by decide) tw_218 (Or.inl rfl) rfl ⟨by decide +kernel, by decide +kernel⟩ rfl ?_
  refine sp_aload_n dX5_init_94 rfl rfl ?_
  refine sp_getR (RX5, TX5, 16) dX5_init_95 clX5 (j := 12) (a := 88) (by decide) tw_210 ⟨by decide +kernel, by decide +kernel⟩ (Or.inr ⟨_, rfl⟩) (by decide +kernel) ?_
  refine sp_iconst (v := 1) dX5_init_98 (by decide) ?_
  refine sp_iconst (v := 1) dX5_init_99 (by decide) ?_
  refine sp_iast3 (j := 1) (M1 := mm_192) dX5_init_100 ⟨by decide +kernel, by decide +kernel⟩ (by unfold vp_in; decide +kernel) (by decide +kernel) rfl ?_
  exact sp_vret dX5_init_101 rfl (fun _ => hQ)
set_option maxRecDepth 100000 in
set_option maxHeartbeats 4000000 in
theorem cc_13 {g : sp_G} {Q : sp_Qt} (hQ : Q none mm_202) : sp_Mt g sp_Tr mX1_init 16 182 [.ref 77, .ref 1] mm_167 Q := by
  refine sp_Mt.of [some (.ref 77), some (.ref 1)] (by decide) (by simp [sp_ent, Value.category]) rfl ?_
  refine sp_aload_n dX1_init_0 rfl rfl ?_
  refine sp_objInit dX1_init_1 tw_304 tw_125 tw_126 (by decide) (by decide) ?_
  refine sp_aload_n dX1_init_4 rfl rfl ?_
  refine sp_newo2 (M1 := mm_168) 15 166 (RX5, TX5, 16) dX1_init_5 clX5 tw_305 tw_158 tw_103 (show _ = 78 by decide +kernel) (by decide) rfl ?_
  refine sp_dup dX1_init_8 rfl ?_
  refine sp_cI (M1 := mm_192) (st := [.ref 78, .ref 77]) (mc1 := 11) (ms1 := 80) 4 86 [] [.ref 78, .ref 78, .ref 77] dX1_init_9 okX5_init tw_306 rfl rfl tw_160 (by decide) (by decide) rfl (Nat.le_of_ble_eq_true rfl) (by decide +kernel) rfl (fun Q hQ => cc_12 hQ) ?_
  refine sp_putP3 (M1 := mm_193) (RX1, TX1, 7) dX1_init_12 clX1 (j := 1) (by decide) tw_308 (Or.inr ⟨rfl, rfl, rfl⟩) (Or.inl ⟨_, rfl⟩) ⟨by decide +kernel, by decide +kernel⟩ rfl ?_
  refine sp_aload_n dX1_init_15 rfl rfl ?_
  refine sp_bipush (v := 25) dX1_init_16 (by decide) ?_
  refine sp_newa2 (t := 1) (N := 25) (M1 := mm_194) 3 61 (Or.inr (Or.inl ⟨rfl, rfl⟩)) dX1_init_18 tw_330 (by decide) (by decide +kernel) (by decide) (show _ = 90 by decide +kernel) (by decide) rfl ?_
  refine sp_putP3 (M1 := mm_195) (RX1, TX1, 7) dX1_init_20 clX1 (j := 2) (by decide) tw_309 (Or.inl rfl) (Or.inr ⟨_, rfl⟩) ⟨by decide +kernel, by decide +kernel⟩ rfl ?_
  refine sp_aload_n dX1_init_23 rfl rfl ?_
  refine sp_bipush (v := 25) dX1_init_24 (by decide) ?_
  refine sp_newa2 (t := 1) (N := 25) (M1 := mm_196) 2 36 (Or.inr (Or.inl ⟨rfl, rfl⟩)) dX1_init_26 tw_330 (by decide) (by decide +kernel) (by decide) (show _ = 91 by decide +kernel) (by decide) rfl ?_
  refine sp_putP3 (M1 := mm_197) (RX1, TX1, 7) dX1_init_28 clX1 (j := 3) (by decide) tw_310 (Or.inl rfl) (Or.inr ⟨_, rfl⟩) ⟨by decide +kernel, by decide +kernel⟩ rfl ?_
  refine sp_aload_n dX1_init_31 rfl rfl ?_
  refine sp_bipush (v := 30) dX1_init_32 (by decide) ?_
  refine sp_newa2 (t := 2) (N := 30) (M1 := mm_198) 1 6 (Or.inr (Or.inr ⟨rfl, rfl⟩)) dX1_init_34 tw_329 (by decide) (by decide +kernel) (by decide) (show _ = 92 by decide +kernel) (by decide) rfl ?_
  refine sp_putP3 (M1 := mm_199) (RX1, TX1, 7) dX1_init_36 clX1 (j := 4) (by decide) tw_311 (Or.inr ⟨rfl, rfl, rfl⟩) (Or.inr ⟨_, rfl⟩) ⟨by decide +kernel, by decide +kernel⟩ rfl ?_
  refine sp_aload_n dX1_init_39 rfl rfl ?_
  refine sp_bipush (v := 6) dX1_init_40 (by decide) ?_
  refine sp_newa2 (t := 0) (N := 6) (M1 := mm_200) 0 0 (Or.inl ⟨rfl, rfl⟩) dX1_init_42 tw_143 (by decide) (by decide +kernel) (by decide) (show _ = 93 by decide +kernel) (by decide) rfl ?_
  refine sp_putP3 (M1 := mm_201) (RX1, TX1, 7) dX1_init_44 clX1 (j := 5) (by decide) tw_312 (Or.inr ⟨rfl, rfl, rfl⟩) (Or.inr ⟨_, rfl⟩) ⟨by decide +kernel, by decide +kernel⟩ rfl ?_
  refine sp_aload_n dX1_init_47 rfl rfl ?_
  refine sp_aload_n dX1_init_48 rfl rfl ?_
  refine sp_putP3 (M1 := mm_202) (RX1, TX1, 7) dX1_init_49 clX1 (j := 0) (by decide) tw_307 (Or.inr ⟨rfl, rfl, rfl⟩) (Or.inl ⟨_, rfl⟩) ⟨by decide +kernel, by decide +kernel⟩ rfl ?_
  exact sp_vret dX1_init_52 rfl (fun _ => hQ)
set_option maxRecDepth 100000 in
set_option maxHeartbeats 4000000 in
theorem cc_14 {g : sp_G} {Q : sp_Qt} (hQ : Q none mm_206) : sp_Mt g sp_Tr mX8_init 1 400 [.ref 94] mm_204 Q := by
  refine sp_Mt.of [some (.ref 94)] (by decide) (by simp [sp_ent, Value.category]) rfl ?_
  refine sp_aload_n dX8_init_0 rfl rfl ?_
  refine sp_objInit dX8_init_1 tw_336 tw_125 tw_126 (by decide) (by decide) ?_
  refine sp_aload_n dX8_init_4 rfl rfl ?_
  refine sp_sipush (v := 400) dX8_init_5 (by decide) ?_
  refine sp_newa2 (t := 0) (N := 400) (M1 := mm_205) 0 0 (Or.inl ⟨rfl, rfl⟩) dX8_init_8 tw_143 (by decide) (by decide +kernel) (by decide) (show _ = 95 by decide +kernel) (by decide) rfl ?_
  refine sp_putP3 (M1 := mm_206) (RX8, TX8, 5) dX8_init_10 clX8 (j := 0) (by decide) tw_337 (Or.inr ⟨rfl, rfl, rfl⟩) (Or.inr ⟨_, rfl⟩) ⟨by decide +kernel, by decide +kernel⟩ rfl ?_
  exact sp_vret dX8_init_13 rfl (fun _ => hQ)
set_option maxRecDepth 100000 in
set_option maxHeartbeats 4000000 in
theorem cc_15 {g : sp_G} {Q : sp_Qt} (hQ : Q none mm_213) : sp_Mt g sp_Tr mX9_init 2 460 [.ref 97] mm_209 Q := by
  refine sp_Mt.of [some (.ref 97)] (by decide) (by simp [sp_ent, Value.category]) rfl ?_
  refine sp_aload_n dX9_init_0 rfl rfl ?_
  refine sp_objInit dX9_init_1 tw_367 tw_125 tw_126 (by decide) (by decide) ?_
  refine sp_aload_n dX9_init_4 rfl rfl ?_
  refine sp_bipush (v := 60) dX9_init_5 (by decide) ?_
  refine sp_newa2 (t := 0) (N := 60) (M1 := mm_210) 1 400 (Or.inl ⟨rfl, rfl⟩) dX9_init_7 tw_143 (by decide) (by decide +kernel) (by decide) (show _ = 98 by decide +kernel) (by decide) rfl ?_
  refine sp_putP3 (M1 := mm_211) (RX9, TX9, 4) dX9_init_9 clX9 (j := 0) (by decide) tw_368 (Or.inr ⟨rfl, rfl, rfl⟩) (Or.inr ⟨_, rfl⟩) ⟨by decide +kernel, by decide +kernel⟩ rfl ?_
  refine sp_aload_n dX9_init_12 rfl rfl ?_
  refine sp_sipush (v := 400) dX9_init_13 (by decide) ?_
  refine sp_newa2 (t := 0) (N := 400) (M1 := mm_212) 0 0 (Or.inl ⟨rfl, rfl⟩) dX9_init_16 tw_143 (by decide) (by decide +kernel) (by decide) (show _ = 99 by decide +kernel) (by decide) rfl ?_
  refine sp_putP3 (M1 := mm_213) (RX9, TX9, 4) dX9_init_18 clX9 (j := 1) (by decide) tw_369 (Or.inr ⟨rfl, rfl, rfl⟩) (Or.inr ⟨_, rfl⟩) ⟨by decide +kernel, by decide +kernel⟩ rfl ?_
  exact sp_vret dX9_init_21 rfl (fun _ => hQ)
set_option maxRecDepth 100000 in
set_option maxHeartbeats 4000000 in
theorem cc_16 {g : sp_G} {Q : sp_Qt} (hQ : Q none mm_219) : sp_Mt g sp_Tr mX2_init 5 784 [.ref 96, .ref 94] mm_208 Q := by
  refine sp_Mt.of [some (.ref 96), some (.ref 94)] (by decide) (by simp [sp_ent, Value.category]) rfl ?_
  refine sp_aload_n dX2_init_0 rfl rfl ?_
  refine sp_objInit dX2_init_1 tw_361 tw_125 tw_126 (by decide) (by decide) ?_
  refine sp_aload_n dX2_init_4 rfl rfl ?_
  refine sp_newo2 (M1 := mm_209) 4 780 (RX9, TX9, 4) dX2_init_5 clX9 tw_362 tw_363 tw_108 (show _ = 97 by decide +kernel) (by decide) rfl ?_
  refine sp_dup dX2_init_8 rfl ?_
  refine sp_cI (M1 := mm_213) (st := [.ref 97, .ref 96]) (mc1 := 2) (ms1 := 460) 2 320 [] [.ref 97, .ref 97, .ref 96] dX2_init_9 okX9_init tw_364 rfl rfl tw_365 (by decide) (by decide) rfl (Nat.le_of_ble_eq_true rfl) (by decide +kernel) rfl (fun Q hQ => cc_15 hQ) ?_
  refine sp_putP3 (M1 := mm_214) (RX2, TX2, 9) dX2_init_12 clX2 (j := 1) (by decide) tw_387 (Or.inr ⟨rfl, rfl, rfl⟩) (Or.inl ⟨_, rfl⟩) ⟨by decide +kernel, by decide +kernel⟩ rfl ?_
  refine sp_aload_n dX2_init_15 rfl rfl ?_
  refine sp_sipush (v := 160) dX2_init_16 (by decide) ?_
  refine sp_newa2 (t := 0) (N := 160) (M1 := mm_215) 1 160 (Or.inl ⟨rfl, rfl⟩) dX2_init_19 tw_143 (by decide) (by decide +kernel) (by decide) (show _ = 100 by decide +kernel) (by decide) rfl ?_
  refine sp_putP3 (M1 := mm_216) (RX2, TX2, 9) dX2_init_21 clX2 (j := 2) (by decide) tw_389 (Or.inr ⟨rfl, rfl, rfl⟩) (Or.inr ⟨_, rfl⟩) ⟨by decide +kernel, by decide +kernel⟩ rfl ?_
  refine sp_aload_n dX2_init_24 rfl rfl ?_
  refine sp_sipush (v := 160) dX2_init_25 (by decide) ?_
  refine sp_newa2 (t := 0) (N := 160) (M1 := mm_217) 0 0 (Or.inl ⟨rfl, rfl⟩) dX2_init_28 tw_143 (by decide) (by decide +kernel) (by decide) (show _ = 101 by decide +kernel) (by decide) rfl ?_
  refine sp_putP3 (M1 := mm_218) (RX2, TX2, 9) dX2_init_30 clX2 (j := 3) (by decide) tw_390 (Or.inr ⟨rfl, rfl, rfl⟩) (Or.inr ⟨_, rfl⟩) ⟨by decide +kernel, by decide +kernel⟩ rfl ?_
  refine sp_aload_n dX2_init_33 rfl rfl ?_
  refine sp_aload_n dX2_init_34 rfl rfl ?_
  refine sp_putP3 (M1 := mm_219) (RX2, TX2, 9) dX2_init_35 clX2 (j := 0) (by decide) tw_386 (Or.inr ⟨rfl, rfl, rfl⟩) (Or.inl ⟨_, rfl⟩) ⟨by decide +kernel, by decide +kernel⟩ rfl ?_
  exact sp_vret dX2_init_38 rfl (fun _ => hQ)
set_option maxRecDepth 100000 in
set_option maxHeartbeats 4000000 in
theorem cc_17 {g : sp_G} {Q : sp_Qt} (hQ : Q none mm_224) : sp_Mt g sp_Tr mX10_init 102 3491 [.ref 0] mm_1 Q := by
  refine sp_Mt.of [some (.ref 0), none] (by decide) (by simp [sp_ent, Value.category]) rfl ?_
  refine sp_aload_n dX10_init_0 rfl rfl ?_
  refine sp_objInit dX10_init_1 tw_124 tw_125 tw_126 (by decide) (by decide) ?_
  refine sp_aload_n dX10_init_4 rfl rfl ?_
  refine sp_newo2 (M1 := mm_2) 101 3489 (RX6, TX6, 2) dX10_init_5 clX6 tw_127 tw_128 tw_100 (show _ = 1 by decide +kernel) (by decide) rfl ?_
  refine sp_dup dX10_init_8 rfl ?_
  refine sp_cIN (M1 := mm_8) (st := [.ref 1, .ref 0]) (mc1 := 3) (ms1 := 63) 98 3426 [] [.ref 1, .ref 1, .ref 0] dX10_init_9 okX6_init (by decide +kernel) rfl rfl tw_130 (by decide) (by decide) rfl (Nat.le_of_ble_eq_true rfl) (by decide +kernel) rfl (fun Q hQ => cc_2 hQ) ?_
  refine sp_putP3 (M1 := mm_9) (RX10, TX10, 16) dX10_init_12 clX10 (j := 0) (by decide) tw_415 (Or.inr ⟨rfl, rfl, rfl⟩) (Or.inl ⟨_, rfl⟩) ⟨by decide +kernel, by decide +kernel⟩ rfl ?_
  refine sp_aload_n dX10_init_15 rfl rfl ?_
  refine sp_newo2 (M1 := mm_10) 97 3420 (RX7, TX7, 6) dX10_init_16 clX7 tw_151 tw_152 tw_102 (show _ = 5 by decide +kernel) (by decide) rfl ?_
  refine sp_dup dX10_init_19 rfl ?_
  refine sp_aload_n dX10_init_20 rfl rfl ?_
  refine sp_getR (RX10, TX10, 16) dX10_init_21 clX10 (j := 0) (a := 1) (by decide) tw_415 ⟨by decide +kernel, by decide +kernel⟩ (Or.inl ⟨_, rfl⟩) (by decide +kernel) ?_
  refine sp_cI (M1 := mm_45) (st := [.ref 5, .ref 0]) (mc1 := 16) (ms1 := 864) 81 2556 [.ref 1] [.ref 1, .ref 5, .ref 5, .ref 0] dX10_init_24 okX7_init tw_153 rfl rfl tw_154 (by decide) (by decide) rfl (Nat.le_of_ble_eq_true rfl) (by decide +kernel) rfl (fun Q hQ => cc_5 hQ) ?_
  refine sp_putP3 (M1 := mm_46) (RX10, TX10, 16) dX10_init_27 clX10 (j := 1) (by decide) tw_416 (Or.inr ⟨rfl, rfl, rfl⟩) (Or.inl ⟨_, rfl⟩) ⟨by decide +kernel, by decide +kernel⟩ rfl ?_
  refine sp_aload_n dX10_init_30 rfl rfl ?_
  refine sp_newo2 (M1 := mm_47) 80 2550 (RX7, TX7, 6) dX10_init_31 clX7 tw_151 tw_152 tw_102 (show _ = 22 by decide +kernel) (by decide) rfl ?_
  refine sp_dup dX10_init_34 rfl ?_
  refine sp_aload_n dX10_init_35 rfl rfl ?_
  refine sp_getR (RX10, TX10, 16) dX10_init_36 clX10 (j := 0) (a := 1) (by decide) tw_415 ⟨by decide +kernel, by decide +kernel⟩ (Or.inl ⟨_, rfl⟩) (by decide +kernel) ?_
  refine sp_cI (M1 := mm_82) (st := [.ref 22, .ref 0]) (mc1 := 16) (ms1 := 864) 64 1686 [.ref 1] [.ref 1, .ref 22, .ref 22, .ref 0] dX10_init_39 okX7_init tw_153 rfl rfl tw_154 (by decide) (by decide) rfl (Nat.le_of_ble_eq_true rfl) (by decide +kernel) rfl (fun Q hQ => cc_8 hQ) ?_
  refine sp_putP3 (M1 := mm_83) (RX10, TX10, 16) dX10_init_42 clX10 (j := 2) (by decide) tw_417 (Or.inr ⟨rfl, rfl, rfl⟩) (Or.inl ⟨_, rfl⟩) ⟨by decide +kernel, by decide +kernel⟩ rfl ?_
  refine sp_aload_n dX10_init_45 rfl rfl ?_
  refine sp_aload_n dX10_init_46 rfl rfl ?_
  refine sp_getR (RX10, TX10, 16) dX10_init_47 clX10 (j := 1) (a := 5) (by decide) tw_416 ⟨by decide +kernel, by decide +kernel⟩ (Or.inl ⟨_, rfl⟩) (by decide +kernel) ?_
  refine sp_getR (RX7, TX7, 6) dX10_init_50 clX7 (j := 0) (a := 6) (by decide) tw_275 ⟨by decide +kernel, by decide +kernel⟩ (Or.inl ⟨_, rfl⟩) (by decide +kernel) ?_
  refine sp_putP3 (M1 := mm_84) (RX10, TX10, 16) dX10_init_53 clX10 (j := 3) (by decide) tw_418 (Or.inr ⟨rfl, rfl, rfl⟩) (Or.inl ⟨_, rfl⟩) ⟨by decide +kernel, by decide +kernel⟩ rfl ?_
  refine sp_aload_n dX10_init_56 rfl rfl ?_
  refine sp_newo2 (M1 := mm_85) 63 1670 (RX5, TX5, 16) dX10_init_57 clX5 tw_296 tw_158 tw_103 (show _ = 39 by decide +kernel) (by decide) rfl ?_
  refine sp_dup dX10_init_60 rfl ?_
  refine sp_cI (M1 := mm_109) (st := [.ref 39, .ref 0]) (mc1 := 11) (ms1 := 80) 52 1590 [] [.ref 39, .ref 39, .ref 0] dX10_init_61 okX5_init tw_297 rfl rfl tw_160 (by decide) (by decide) rfl (Nat.le_of_ble_eq_true rfl) (by decide +kernel) rfl (fun Q hQ => cc_9 hQ) ?_
  refine sp_putP3 (M1 := mm_110) (RX10, TX10, 16) dX10_init_64 clX10 (j := 4) (by decide) tw_419 (Or.inr ⟨rfl, rfl, rfl⟩) (Or.inl ⟨_, rfl⟩) ⟨by decide +kernel, by decide +kernel⟩ rfl ?_
  refine sp_aload_n dX10_init_67 rfl rfl ?_
  refine sp_iconst (v := 2) dX10_init_68 (by decide) ?_
  refine sp_newr2 (t := 3) (N := 2) (M1 := mm_111) 51 1588 (Or.inl ⟨rfl, rfl⟩) dX10_init_69 tw_296 (by decide) (by decide +kernel) (by decide) (show _ = 51 by decide +kernel) (by decide) rfl ?_
  refine sp_putP3 (M1 := mm_112) (RX10, TX10, 16) dX10_init_72 clX10 (j := 5) (by decide) tw_420 (Or.inr ⟨rfl, rfl, rfl⟩) (Or.inr ⟨_, rfl⟩) ⟨by decide +kernel, by decide +kernel⟩ rfl ?_
  refine sp_iconst (v := 0) dX10_init_75 (by decide) ?_
  refine sp_istore_n [some (.ref 0), some (.int 0)] dX10_init_76 rfl (by decide) rfl ?_
  refine sp_iload_n dX10_init_77 rfl rfl ?_
  refine sp_iconst (v := 2) dX10_init_78 (by decide) ?_
  refine sp_icmp_ge (tgt := 101) dX10_init_79 (by decide) (fun hc => absurd hc (by decide)) (fun _ => ?_)
  refine sp_aload_n dX10_init_82 rfl rfl ?_
  refine sp_getR (RX10, TX10, 16) dX10_init_83 clX10 (j := 5) (a := 51) (by decide) tw_420 ⟨by decide +kernel, by decide +kernel⟩ (Or.inr ⟨_, rfl⟩) (by decide +kernel) ?_
  refine sp_iload_n dX10_init_86 rfl rfl ?_
  refine sp_newo2 (M1 := mm_113) 50 1572 (RX5, TX5, 16) dX10_init_87 clX5 tw_296 tw_158 tw_103 (show _ = 52 by decide +kernel) (by decide) rfl ?_
  refine sp_dup dX10_init_90 rfl ?_
  refine sp_cI (M1 := mm_137) (st := [.ref 52, .int 0, .ref 51]) (mc1 := 11) (ms1 := 80) 39 1492 [] [.ref 52, .ref 52, .int 0, .ref 51] dX10_init_91 okX5_init tw_297 rfl rfl tw_160 (by decide) (by decide) rfl (Nat.le_of_ble_eq_true rfl) (by decide +kernel) rfl (fun Q hQ => cc_10 hQ) ?_
  refine sp_aast3 (j := 0) (M1 := mm_138) dX10_init_94 ⟨by decide +kernel, by decide +kernel⟩ (by unfold vp_in; decide +kernel) (by decide +kernel) ⟨by decide +kernel, by decide +kernel⟩ rfl ?_
  refine sp_iinc (v := 1) [some (.ref 0), some (.int 1)] dX10_init_95 rfl (by decide) (by decide) rfl ?_
  refine sp_goto (tgt := 77) dX10_init_98 (by decide) ?_
  refine sp_iload_n dX10_init_77 rfl rfl ?_
  refine sp_iconst (v := 2) dX10_init_78 (by decide) ?_
  refine sp_icmp_ge (tgt := 101) dX10_init_79 (by decide) (fun hc => absurd hc (by decide)) (fun _ => ?_)
  refine sp_aload_n dX10_init_82 rfl rfl ?_
  refine sp_getR (RX10, TX10, 16) dX10_init_83 clX10 (j := 5) (a := 51) (by decide) tw_420 ⟨by decide +kernel, by decide +kernel⟩ (Or.inr ⟨_, rfl⟩) (by decide +kernel) ?_
  refine sp_iload_n dX10_init_86 rfl rfl ?_
  refine sp_newo2 (M1 := mm_139) 38 1476 (RX5, TX5, 16) dX10_init_87 clX5 tw_296 tw_158 tw_103 (show _ = 64 by decide +kernel) (by decide) rfl ?_
  refine sp_dup dX10_init_90 rfl ?_
  refine sp_cI (M1 := mm_163) (st := [.ref 64, .int 1, .ref 51]) (mc1 := 11) (ms1 := 80) 27 1396 [] [.ref 64, .ref 64, .int 1, .ref 51] dX10_init_91 okX5_init tw_297 rfl rfl tw_160 (by decide) (by decide) rfl (Nat.le_of_ble_eq_true rfl) (by decide +kernel) rfl (fun Q hQ => cc_11 hQ) ?_
  refine sp_aast3 (j := 1) (M1 := mm_164) dX10_init_94 ⟨by decide +kernel, by decide +kernel⟩ (by unfold vp_in; decide +kernel) (by decide +kernel) ⟨by decide +kernel, by decide +kernel⟩ rfl ?_
  refine sp_iinc (v := 2) [some (.ref 0), some (.int 2)] dX10_init_95 rfl (by decide) (by decide) rfl ?_
  refine sp_goto (tgt := 77) dX10_init_98 (by decide) ?_
  refine sp_iload_n dX10_init_77 rfl rfl ?_
  refine sp_iconst (v := 2) dX10_init_78 (by decide) ?_
  refine sp_icmp_ge (tgt := 101) dX10_init_79 (by decide) (fun _ => ?_) (fun hc => absurd hc (by decide))
  refine sp_aload_n dX10_init_101 rfl rfl ?_
  refine sp_iconst (v := 2) dX10_init_102 (by decide) ?_
  refine sp_newa2 (t := 2) (N := 2) (M1 := mm_165) 26 1394 (Or.inr (Or.inr ⟨rfl, rfl⟩)) dX10_init_103 tw_329 (by decide) (by decide +kernel) (by decide) (show _ = 76 by decide +kernel) (by decide) rfl ?_
  refine sp_putP3 (M1 := mm_166) (RX10, TX10, 16) dX10_init_105 clX10 (j := 6) (by decide) tw_421 (Or.inr ⟨rfl, rfl, rfl⟩) (Or.inr ⟨_, rfl⟩) ⟨by decide +kernel, by decide +kernel⟩ rfl ?_
  refine sp_aload_n dX10_init_108 rfl rfl ?_
  refine sp_newo2 (M1 := mm_167) 25 1387 (RX1, TX1, 7) dX10_init_109 clX1 tw_299 tw_300 tw_105 (show _ = 77 by decide +kernel) (by decide) rfl ?_
  refine sp_dup dX10_init_112 rfl ?_
  refine sp_aload_n dX10_init_113 rfl rfl ?_
  refine sp_getR (RX10, TX10, 16) dX10_init_114 clX10 (j := 0) (a := 1) (by decide) tw_415 ⟨by decide +kernel, by decide +kernel⟩ (Or.inl ⟨_, rfl⟩) (by decide +kernel) ?_
  refine sp_cI (M1 := mm_202) (st := [.ref 77, .ref 0]) (mc1 := 16) (ms1 := 182) 9 1205 [.ref 1] [.ref 1, .ref 77, .ref 77, .ref 0] dX10_init_117 okX1_init tw_301 rfl rfl tw_302 (by decide) (by decide) rfl (Nat.le_of_ble_eq_true rfl) (by decide +kernel) rfl (fun Q hQ => cc_13 hQ) ?_
  refine sp_putP3 (M1 := mm_203) (RX10, TX10, 16) dX10_init_120 clX10 (j := 7) (by decide) tw_422 (Or.inr ⟨rfl, rfl, rfl⟩) (Or.inl ⟨_, rfl⟩) ⟨by decide +kernel, by decide +kernel⟩ rfl ?_
  refine sp_aload_n dX10_init_123 rfl rfl ?_
  refine sp_newo2 (M1 := mm_204) 8 1200 (RX8, TX8, 5) dX10_init_124 clX8 tw_331 tw_332 tw_106 (show _ = 94 by decide +kernel) (by decide) rfl ?_
  refine sp_dup dX10_init_127 rfl ?_
  refine sp_cIN (M1 := mm_206) (st := [.ref 94, .ref 0]) (mc1 := 1) (ms1 := 400) 7 800 [] [.ref 94, .ref 94, .ref 0] dX10_init_128 okX8_init (by decide +kernel) rfl rfl tw_334 (by decide) (by decide) rfl (Nat.le_of_ble_eq_true rfl) (by decide +kernel) rfl (fun Q hQ => cc_14 hQ) ?_
  refine sp_putP3 (M1 := mm_207) (RX10, TX10, 16) dX10_init_131 clX10 (j := 8) (by decide) tw_423 (Or.inr ⟨rfl, rfl, rfl⟩) (Or.inl ⟨_, rfl⟩) ⟨by decide +kernel, by decide +kernel⟩ rfl ?_
  refine sp_aload_n dX10_init_134 rfl rfl ?_
  refine sp_newo2 (M1 := mm_208) 6 791 (RX2, TX2, 9) dX10_init_135 clX2 tw_356 tw_357 tw_107 (show _ = 96 by decide +kernel) (by decide) rfl ?_
  refine sp_dup dX10_init_138 rfl ?_
  refine sp_aload_n dX10_init_139 rfl rfl ?_
  refine sp_getR (RX10, TX10, 16) dX10_init_140 clX10 (j := 8) (a := 94) (by decide) tw_423 ⟨by decide +kernel, by decide +kernel⟩ (Or.inl ⟨_, rfl⟩) (by decide +kernel) ?_
  refine sp_cI (M1 := mm_219) (st := [.ref 96, .ref 0]) (mc1 := 5) (ms1 := 784) 1 7 [.ref 94] [.ref 94, .ref 96, .ref 96, .ref 0] dX10_init_143 okX2_init tw_358 rfl rfl tw_359 (by decide) (by decide) rfl (Nat.le_of_ble_eq_true rfl) (by decide +kernel) rfl (fun Q hQ => cc_16 hQ) ?_
  refine sp_putP3 (M1 := mm_220) (RX10, TX10, 16) dX10_init_146 clX10 (j := 9) (by decide) tw_424 (Or.inr ⟨rfl, rfl, rfl⟩) (Or.inl ⟨_, rfl⟩) ⟨by decide +kernel, by decide +kernel⟩ rfl ?_
  refine sp_aload_n dX10_init_149 rfl rfl ?_
  refine sp_bipush (v := 7) dX10_init_150 (by decide) ?_
  refine sp_newa2 (t := 0) (N := 7) (M1 := mm_221) 0 0 (Or.inl ⟨rfl, rfl⟩) dX10_init_152 tw_143 (by decide) (by decide +kernel) (by decide) (show _ = 102 by decide +kernel) (by decide) rfl ?_
  refine sp_putP3 (M1 := mm_222) (RX10, TX10, 16) dX10_init_154 clX10 (j := 10) (by decide) tw_425 (Or.inr ⟨rfl, rfl, rfl⟩) (Or.inr ⟨_, rfl⟩) ⟨by decide +kernel, by decide +kernel⟩ rfl ?_
  refine sp_aload_n dX10_init_157 rfl rfl ?_
  refine sp_iconst (v := (-1)) dX10_init_158 (by decide) ?_
  refine sp_putI3 (M1 := mm_223) (RX10, TX10, 16) dX10_init_159 clX10 (j := 14) (by decide) tw_429 (Or.inl rfl) rfl ⟨by decide +kernel, by decide +kernel⟩ rfl ?_
  refine sp_aload_n dX10_init_162 rfl rfl ?_
  refine sp_iconst (v := (-1)) dX10_init_163 (by decide) ?_
  refine sp_putI3 (M1 := mm_224) (RX10, TX10, 16) dX10_init_164 clX10 (j := 15) (by decide) tw_430 (Or.inl rfl) rfl ⟨by decide +kernel, by decide +kernel⟩ rfl ?_
  exact sp_vret dX10_init_167 rfl (fun _ => hQ)
