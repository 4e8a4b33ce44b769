def fX11_law_l37 (F : Nat) (kx : sp_Mem → Option (Int32 × sp_Mem)) : Nat → sp_Mem → Option (Int32 × sp_Mem)
  | 0, _ => none
  | n + 1, M =>
  if (sp_I M 103 19) = 0 then (if (fX11_isSign M 59) = 0 then (kx M) else ((fX11_next F M).bind fun M7 => (fX11_readLaw F M7).bind fun M8 => (fX11_law_l37 F kx n) M8)) else (kx M)
def fX11_law_l110 (F : Nat) (kx : Int32 → sp_Mem → Option (Int32 × sp_Mem)) : Nat → Int32 → Int32 → sp_Mem → Option (Int32 × sp_Mem)
  | 0, _, _, _ => none
  | n + 1, a1, a2, M =>
  if (8 * (sp_I M 103 21)) ≤ a2 then (kx a1 M) else ((sp_ix 96 a2).bind fun j16 => (sp_ix 5480 ((a1 + 2) + a2)).bind fun j17 => sp_do (sp_setI M 105 j17 (sp_I M 113 j16)) fun M18 => (fX11_law_l110 F kx n) a1 (a2 + 1) M18)
def fX11_law_l145 (F : Nat) (kx : sp_Mem → Option (Int32 × sp_Mem)) : Nat → Int32 → Int32 → sp_Mem → Option (Int32 × sp_Mem)
  | 0, _, _, _ => none
  | n + 1, a1, a2, M =>
  if (sp_I M 103 23) ≤ a2 then (kx M) else ((sp_ix 400 a2).bind fun j22 => (sp_ix 5480 ((a1 + 98) + (2 * a2))).bind fun j23 => sp_do (sp_setI M 105 j23 (sp_I M 114 j22)) fun M24 => (sp_ix 400 a2).bind fun j25 => (sp_ix 5480 (((a1 + 98) + (2 * a2)) + 1)).bind fun j26 => sp_do (sp_setI M24 105 j26 (sp_I M24 115 j25)) fun M27 => (fX11_law_l145 F kx n) a1 (a2 + 1) M27)
def fX11_law_j64 (F : Nat) (M : sp_Mem) : Option (Int32 × sp_Mem) :=
  (fX11_endText F M).bind fun M10 => if (sp_I M10 103 19) = 0 then (sp_do ((80 + (900 * (sp_I M10 105 3)))) fun u12 => (sp_ix 5480 (u12 + 1)).bind fun j13 => sp_do (sp_setI M10 105 j13 (sp_I M10 103 21)) fun M14 => fX11_law_l110 F (fun b20 M19 => fX11_law_l145 F (fun M28 => sp_do (sp_setI M28 105 3 ((sp_I M28 105 3) + 1)) fun M29 => (fX11_tell M29 ((sp_I M29 105 3) - 1)).bind fun x30 => some (x30.1, x30.2)) F b20 0 M19) F u12 0 M14) else ((fX11_tell M10 (-6)).bind fun x31 => some (x31.1, x31.2))
def fX11_law (F : Nat) (M : sp_Mem) : Option (Int32 × sp_Mem) :=
  sp_do (sp_setI M 103 0 0) fun M1 => if (sp_I M1 105 3) = 6 then (sp_do (sp_setI M1 103 13 0) fun M32 => (fX11_tell M32 (-5)).bind fun x33 => some (x33.1, x33.2)) else ((fX11_beginText F M1 0).bind fun M3 => (fX11_readLaw F M3).bind fun M4 => fX11_law_l37 F (fun M9 => fX11_law_j64 F M9) F M4)
set_option maxRecDepth 100000 in
set_option maxHeartbeats 4000000 in
theorem tX11_law_l37 {g : sp_G} {Ω : sp_Mem → Prop} {Q : sp_Qt} {F : Nat} {p : (Int32 × sp_Mem)} (hG : sp_Ok Ω)  {kx : sp_Mem → Option (Int32 × sp_Mem)} (hQ : Q (some (.int p.1)) p.2) (hx : ∀  (M : sp_Mem), kx M = some p → sp_Wp g Ω mX11_law 0 0 64 [some (.ref 103), none, none] [] M Q) : ∀ (n : Nat)  (M : sp_Mem), fX11_law_l37 F kx n M = some p → sp_Wp g Ω mX11_law 0 0 37 [some (.ref 103), none, none] [] M Q := by
  intro n
  induction n with
  | zero =>
    intro M h
    rw [fX11_law_l37] at h
    cases h
  | succ n ih =>
    intro M h
    rw [fX11_law_l37] at h
    refine sp_aload_n dX11_law_37 rfl rfl ?_
    refine sp_use (fun ho => ?_)
    have hs := hG.1 _ ho
    refine sp_getI (RX11, TX11, 56) dX11_law_38 clX11 (j := 19) (by decide) tw_1234 (wsI_103 hs) (Or.inr rfl) ?_
    refine sp_if_ne (tgt := 64) dX11_law_41 (by decide) (fun hc5 => ?_) (fun hc5 => ?_)
    · have h := (if_neg hc5).symm.trans h
      refine sp_weak [true, false, false] [some (.ref 103), none, none] rfl ?_
      exact hx _ h
    · have h := (if_pos hc5).symm.trans h
      refine sp_aload_n dX11_law_44 rfl rfl ?_
      refine sp_bipush (v := 59) dX11_law_45 (by decide) ?_
      refine sp_cV (M1 := M) (r := some (.int (fX11_isSign M 59))) (o := 103) (st := []) (c := 10) (RX11, TX11, 56) [.int 59] [.int 59, .ref 103] [.int (fX11_isSign M 59)] dX11_law_47 okX11_isSign tw_1597 tw_1599 tw_53 (by decide) (by decide) rfl (Nat.le_of_ble_eq_true rfl) rfl rfl rfl rfl (wsI_103 hs) (fun Q hQ => tX11_isSign hG rfl hQ) ?_
      refine sp_if_eq (tgt := 64) dX11_law_50 (by decide) (fun hc6 => ?_) (fun hc6 => ?_)
      · have h := (if_pos hc6).symm.trans h
        refine sp_weak [true, false, false] [some (.ref 103), none, none] rfl ?_
        exact hx _ h
      · have h := (if_neg hc6).symm.trans h
        refine sp_aload_n dX11_law_53 rfl rfl ?_
        obtain ⟨M7, hM7, h⟩ := Option.bind_eq_some_iff.mp h
        refine sp_cV (M1 := M7) (r := none) (o := 103) (st := []) (c := 10) (RX11, TX11, 56) [] [.ref 103] [] dX11_law_54 okX11_next tw_1557 tw_1559 tw_46 (by decide) (by decide) rfl (Nat.le_of_ble_eq_true rfl) rfl rfl rfl rfl (wsI_103 hs) (fun Q hQ => tX11_next hG hM7 hQ) ?_
        refine sp_aload_n dX11_law_57 rfl rfl ?_
        refine sp_use (fun ho => ?_)
        have hs := hG.1 _ ho
        obtain ⟨M8, hM8, h⟩ := Option.bind_eq_some_iff.mp h
        refine sp_cV (M1 := M8) (r := none) (o := 103) (st := []) (c := 10) (RX11, TX11, 56) [] [.ref 103] [] dX11_law_58 okX11_readLaw tw_1572 tw_1574 tw_47 (by decide) (by decide) rfl (Nat.le_of_ble_eq_true rfl) rfl rfl rfl rfl (wsI_103 hs) (fun Q hQ => tX11_readLaw hG hM8 hQ) ?_
        refine sp_goto (tgt := 37) dX11_law_61 (by decide) ?_
        refine sp_weak [true, false, false] [some (.ref 103), none, none] rfl ?_
        exact ih _ h
set_option maxRecDepth 100000 in
set_option maxHeartbeats 4000000 in
theorem tX11_law_l110 {g : sp_G} {Ω : sp_Mem → Prop} {Q : sp_Qt} {F : Nat} {p : (Int32 × sp_Mem)} (hG : sp_Ok Ω)  {kx : Int32 → sp_Mem → Option (Int32 × sp_Mem)} (hQ : Q (some (.int p.1)) p.2) (hx : ∀ (a1 : Int32) (M : sp_Mem), kx a1 M = some p → sp_Wp g Ω mX11_law 0 0 143 [some (.ref 103), some (.int a1), none] [] M Q) : ∀ (n : Nat) (a1 : Int32) (a2 : Int32) (M : sp_Mem), fX11_law_l110 F kx n a1 a2 M = some p → sp_Wp g Ω mX11_law 0 0 110 [some (.ref 103), some (.int a1), some (.int a2)] [] M Q := by
  intro n
  induction n with
  | zero =>
    intro a1 a2 M h
    rw [fX11_law_l110] at h
    cases h
  | succ n ih =>
    intro a1 a2 M h
    rw [fX11_law_l110] at h
    refine sp_iload_n dX11_law_110 rfl rfl ?_
    refine sp_bipush (v := 8) dX11_law_111 (by decide) ?_
    refine sp_aload_n dX11_law_113 rfl rfl ?_
    refine sp_use (fun ho => ?_)
    have hs := hG.1 _ ho
    refine sp_getI (RX11, TX11, 56) dX11_law_114 clX11 (j := 21) (by decide) tw_1236 (wsI_103 hs) (Or.inl rfl) ?_
    refine sp_imul dX11_law_117 ?_
    refine sp_icmp_ge (tgt := 143) dX11_law_118 (by decide) (fun hc15 => ?_) (fun hc15 => ?_)
    · have h := (if_pos hc15).symm.trans h
      refine sp_weak [true, true, false] [some (.ref 103), some (.int a1), none] rfl ?_
      exact hx _ _ h
    · have h := (if_neg hc15).symm.trans h
      refine sp_aload_n dX11_law_121 rfl rfl ?_
      refine sp_getR (RX11, TX11, 56) dX11_law_122 clX11 (j := 3) (by decide) tw_1218 (wsI_103 hs) (Or.inr ⟨_, rfl⟩) (wsP_103_3 hs) ?_
      refine sp_iload_n dX11_law_125 rfl rfl ?_
      refine sp_iconst (v := 2) dX11_law_126 (by decide) ?_
      refine sp_iadd dX11_law_127 ?_
      refine sp_iload_n dX11_law_128 rfl rfl ?_
      refine sp_iadd dX11_law_129 ?_
      refine sp_aload_n dX11_law_130 rfl rfl ?_
      refine sp_getR (RX11, TX11, 56) dX11_law_131 clX11 (j := 22) (by decide) tw_1237 (wsI_103 hs) (Or.inr ⟨_, rfl⟩) (wsP_103_22 hs) ?_
      refine sp_iload_n dX11_law_134 rfl rfl ?_
      obtain ⟨j16, hj16, h⟩ := Option.bind_eq_some_iff.mp h
      refine sp_iald2 (j := j16) dX11_law_135 (wsA_113 hs) (wsN_113 hs) hj16 ?_
      obtain ⟨j17, hj17, h⟩ := Option.bind_eq_some_iff.mp h
      obtain ⟨M18, hM18, h⟩ := sp_do_e h
      refine sp_iast2 (j := j17) hG dX11_law_136 (wsA_105 hs) (wsN_105 hs) hj17 hM18 ?_
      refine sp_iinc (v := (a2 + 1)) [some (.ref 103), some (.int a1), some (.int (a2 + 1))] dX11_law_137 rfl rfl (by decide) rfl ?_
      refine sp_goto (tgt := 110) dX11_law_140 (by decide) ?_
      refine sp_weak [true, true, true] [some (.ref 103), some (.int a1), some (.int (a2 + 1))] rfl ?_
      exact ih _ _ _ h
set_option maxRecDepth 100000 in
set_option maxHeartbeats 4000000 in
theorem tX11_law_l145 {g : sp_G} {Ω : sp_Mem → Prop} {Q : sp_Qt} {F : Nat} {p : (Int32 × sp_Mem)} (hG : sp_Ok Ω)  {kx : sp_Mem → Option (Int32 × sp_Mem)} (hQ : Q (some (.int p.1)) p.2) (hx : ∀  (M : sp_Mem), kx M = some p → sp_Wp g Ω mX11_law 0 0 199 [some (.ref 103), none, none] [] M Q) : ∀ (n : Nat) (a1 : Int32) (a2 : Int32) (M : sp_Mem), fX11_law_l145 F kx n a1 a2 M = some p → sp_Wp g Ω mX11_law 0 0 145 [some (.ref 103), some (.int a1), some (.int a2)] [] M Q := by
  intro n
  induction n with
  | zero =>
    intro a1 a2 M h
    rw [fX11_law_l145] at h
    cases h
  | succ n ih =>
    intro a1 a2 M h
    rw [fX11_law_l145] at h
    refine sp_iload_n dX11_law_145 rfl rfl ?_
    refine sp_aload_n dX11_law_146 rfl rfl ?_
    refine sp_use (fun ho => ?_)
    have hs := hG.1 _ ho
    refine sp_getI (RX11, TX11, 56) dX11_law_147 clX11 (j := 23) (by decide) tw_1238 (wsI_103 hs) (Or.inl rfl) ?_
    refine sp_icmp_ge (tgt := 199) dX11_law_150 (by decide) (fun hc21 => ?_) (fun hc21 => ?_)
    · have h := (if_pos hc21).symm.trans h
      refine sp_weak [true, false, false] [some (.ref 103), none, none] rfl ?_
      exact hx _ h
    · have h := (if_neg hc21).symm.trans h
      refine sp_aload_n dX11_law_153 rfl rfl ?_
      refine sp_getR (RX11, TX11, 56) dX11_law_154 clX11 (j := 3) (by decide) tw_1218 (wsI_103 hs) (Or.inr ⟨_, rfl⟩) (wsP_103_3 hs) ?_
      refine sp_iload_n dX11_law_157 rfl rfl ?_
      refine sp_bipush (v := 98) dX11_law_158 (by decide) ?_
      refine sp_iadd dX11_law_160 ?_
      refine sp_iconst (v := 2) dX11_law_161 (by decide) ?_
      refine sp_iload_n dX11_law_162 rfl rfl ?_
      refine sp_imul dX11_law_163 ?_
      refine sp_iadd dX11_law_164 ?_
      refine sp_aload_n dX11_law_165 rfl rfl ?_
      refine sp_getR (RX11, TX11, 56) dX11_law_166 clX11 (j := 24) (by decide) tw_1239 (wsI_103 hs) (Or.inr ⟨_, rfl⟩) (wsP_103_24 hs) ?_
      refine sp_iload_n dX11_law_169 rfl rfl ?_
      obtain ⟨j22, hj22, h⟩ := Option.bind_eq_some_iff.mp h
      refine sp_iald2 (j := j22) dX11_law_170 (wsA_114 hs) (wsN_114 hs) hj22 ?_
      obtain ⟨j23, hj23, h⟩ := Option.bind_eq_some_iff.mp h
      obtain ⟨M24, hM24, h⟩ := sp_do_e h
      refine sp_iast2 (j := j23) hG dX11_law_171 (wsA_105 hs) (wsN_105 hs) hj23 hM24 ?_
      refine sp_aload_n dX11_law_172 rfl rfl ?_
      refine sp_use (fun ho => ?_)
      have hs := hG.1 _ ho
      refine sp_getR (RX11, TX11, 56) dX11_law_173 clX11 (j := 3) (by decide) tw_1218 (wsI_103 hs) (Or.inr ⟨_, rfl⟩) (wsP_103_3 hs) ?_
      refine sp_iload_n dX11_law_176 rfl rfl ?_
      refine sp_bipush (v := 98) dX11_law_177 (by decide) ?_
      refine sp_iadd dX11_law_179 ?_
      refine sp_iconst (v := 2) dX11_law_180 (by decide) ?_
      refine sp_iload_n dX11_law_181 rfl rfl ?_
      refine sp_imul dX11_law_182 ?_
      refine sp_iadd dX11_law_183 ?_
      refine sp_iconst (v := 1) dX11_law_184 (by decide) ?_
      refine sp_iadd dX11_law_185 ?_
      refine sp_aload_n dX11_law_186 rfl rfl ?_
      refine sp_getR (RX11, TX11, 56) dX11_law_187 clX11 (j := 25) (by decide) tw_1240 (wsI_103 hs) (Or.inr ⟨_, rfl⟩) (wsP_103_25 hs) ?_
      refine sp_iload_n dX11_law_190 rfl rfl ?_
      obtain ⟨j25, hj25, h⟩ := Option.bind_eq_some_iff.mp h
      refine sp_iald2 (j := j25) dX11_law_191 (wsA_115 hs) (wsN_115 hs) hj25 ?_
      obtain ⟨j26, hj26, h⟩ := Option.bind_eq_some_iff.mp h
      obtain ⟨M27, hM27, h⟩ := sp_do_e h
      refine sp_iast2 (j := j26) hG dX11_law_192 (wsA_105 hs) (wsN_105 hs) hj26 hM27 ?_
      refine sp_iinc (v := (a2 + 1)) [some (.ref 103), some (.int a1), some (.int (a2 + 1))] dX11_law_193 rfl rfl (by decide) rfl ?_
      refine sp_goto (tgt := 145) dX11_law_196 (by decide) ?_
      refine sp_weak [true, true, true] [some (.ref 103), some (.int a1), some (.int (a2 + 1))] rfl ?_
      exact ih _ _ _ h
set_option maxRecDepth 100000 in
set_option maxHeartbeats 4000000 in
theorem tX11_law_j64 {g : sp_G} {Ω : sp_Mem → Prop} {Q : sp_Qt} {F : Nat} {p : (Int32 × sp_Mem)} (hG : sp_Ok Ω)  (hQ : Q (some (.int p.1)) p.2) (M : sp_Mem) (h : fX11_law_j64 F M = some p) : sp_Wp g Ω mX11_law 0 0 64 [some (.ref 103), none, none] [] M Q := by
  unfold fX11_law_j64 at h
  refine sp_aload_n dX11_law_64 rfl rfl ?_
  refine sp_use (fun ho => ?_)
  have hs := hG.1 _ ho
  obtain ⟨M10, hM10, h⟩ := Option.bind_eq_some_iff.mp h
  refine sp_cV (M1 := M10) (r := none) (o := 103) (st := []) (c := 10) (RX11, TX11, 56) [] [.ref 103] [] dX11_law_65 okX11_endText tw_1659 tw_1661 tw_66 (by decide) (by decide) rfl (Nat.le_of_ble_eq_true rfl) rfl rfl rfl rfl (wsI_103 hs) (fun Q hQ => tX11_endText hG hM10 hQ) ?_
  refine sp_aload_n dX11_law_68 rfl rfl ?_
  refine sp_use (fun ho => ?_)
  have hs := hG.1 _ ho
  refine sp_getI (RX11, TX11, 56) dX11_law_69 clX11 (j := 19) (by decide) tw_1234 (wsI_103 hs) (Or.inr rfl) ?_
  refine sp_if_eq (tgt := 82) dX11_law_72 (by decide) (fun hc11 => ?_) (fun hc11 => ?_)
  · have h := (if_pos hc11).symm.trans h
    refine sp_bipush (v := 80) dX11_law_82 (by decide) ?_
    refine sp_sipush (v := 900) dX11_law_84 (by decide) ?_
    refine sp_aload_n dX11_law_87 rfl rfl ?_
    refine sp_getR (RX11, TX11, 56) dX11_law_88 clX11 (j := 3) (by decide) tw_1218 (wsI_103 hs) (Or.inr ⟨_, rfl⟩) (wsP_103_3 hs) ?_
    refine sp_iconst (v := 3) dX11_law_91 (by decide) ?_
    refine sp_iald2 (j := 3) dX11_law_92 (wsA_105 hs) (wsN_105 hs) rfl ?_
    refine sp_imul dX11_law_93 ?_
    refine sp_iadd dX11_law_94 ?_
    obtain ⟨u12, hu12, h⟩ := sp_do_e h
    refine sp_topi hu12 ?_
    refine sp_istore_n [some (.ref 103), some (.int u12), none] dX11_law_95 rfl (by decide) rfl ?_
    refine sp_aload_n dX11_law_96 rfl rfl ?_
    refine sp_getR (RX11, TX11, 56) dX11_law_97 clX11 (j := 3) (by decide) tw_1218 (wsI_103 hs) (Or.inr ⟨_, rfl⟩) (wsP_103_3 hs) ?_
    refine sp_iload_n dX11_law_100 rfl rfl ?_
    refine sp_iconst (v := 1) dX11_law_101 (by decide) ?_
    refine sp_iadd dX11_law_102 ?_
    refine sp_aload_n dX11_law_103 rfl rfl ?_
    refine sp_getI (RX11, TX11, 56) dX11_law_104 clX11 (j := 21) (by decide) tw_1236 (wsI_103 hs) (Or.inl rfl) ?_
    obtain ⟨j13, hj13, h⟩ := Option.bind_eq_some_iff.mp h
    obtain ⟨M14, hM14, h⟩ := sp_do_e h
    refine sp_iast2 (j := j13) hG dX11_law_107 (wsA_105 hs) (wsN_105 hs) hj13 hM14 ?_
    refine sp_iconst (v := 0) dX11_law_108 (by decide) ?_
    refine sp_istore_n [some (.ref 103), some (.int u12), some (.int 0)] dX11_law_109 rfl (by decide) rfl ?_
    refine sp_weak [true, true, true] [some (.ref 103), some (.int u12), some (.int 0)] rfl ?_
    refine tX11_law_l110 hG hQ (fun b20 M19 h => ?_) F _ _ _ h
    refine sp_iconst (v := 0) dX11_law_143 (by decide) ?_
    refine sp_istore_n [some (.ref 103), some (.int b20), some (.int 0)] dX11_law_144 rfl (by decide) rfl ?_
    refine sp_weak [true, true, true] [some (.ref 103), some (.int b20), some (.int 0)] rfl ?_
    refine tX11_law_l145 hG hQ (fun M28 h => ?_) F _ _ _ h
    refine sp_aload_n dX11_law_199 rfl rfl ?_
    refine sp_use (fun ho => ?_)
    have hs := hG.1 _ ho
    refine sp_getR (RX11, TX11, 56) dX11_law_200 clX11 (j := 3) (by decide) tw_1218 (wsI_103 hs) (Or.inr ⟨_, rfl⟩) (wsP_103_3 hs) ?_
    refine sp_iconst (v := 3) dX11_law_203 (by decide) ?_
    refine sp_dup2 dX11_law_204 rfl rfl ?_
    refine sp_iald2 (j := 3) dX11_law_205 (wsA_105 hs) (wsN_105 hs) rfl ?_
    refine sp_iconst (v := 1) dX11_law_206 (by decide) ?_
    refine sp_iadd dX11_law_207 ?_
    obtain ⟨M29, hM29, h⟩ := sp_do_e h
    refine sp_iast2 (j := 3) hG dX11_law_208 (wsA_105 hs) (wsN_105 hs) rfl hM29 ?_
    refine sp_aload_n dX11_law_209 rfl rfl ?_
    refine sp_aload_n dX11_law_210 rfl rfl ?_
    refine sp_use (fun ho => ?_)
    have hs := hG.1 _ ho
    refine sp_getR (RX11, TX11, 56) dX11_law_211 clX11 (j := 3) (by decide) tw_1218 (wsI_103 hs) (Or.inr ⟨_, rfl⟩) (wsP_103_3 hs) ?_
    refine sp_iconst (v := 3) dX11_law_214 (by decide) ?_
    refine sp_iald2 (j := 3) dX11_law_215 (wsA_105 hs) (wsN_105 hs) rfl ?_
    refine sp_iconst (v := 1) dX11_law_216 (by decide) ?_
    refine sp_isub dX11_law_217 ?_
    obtain ⟨x30, hx30, h⟩ := Option.bind_eq_some_iff.mp h
    refine sp_cV (M1 := x30.2) (r := some (.int x30.1)) (o := 103) (st := []) (c := 10) (RX11, TX11, 56) [.int ((sp_I M29 105 3) - 1)] [.int ((sp_I M29 105 3) - 1), .ref 103] [.int x30.1] dX11_law_218 okX11_tell tw_1388 tw_1390 tw_27 (by decide) (by decide) rfl (Nat.le_of_ble_eq_true rfl) rfl rfl rfl rfl (wsI_103 hs) (fun Q hQ => tX11_tell hG hx30 hQ) ?_
    cases h
    exact sp_iret dX11_law_221 (ty := .int) rfl rfl (fun _ => hQ)
  · have h := (if_neg hc11).symm.trans h
    refine sp_aload_n dX11_law_75 rfl rfl ?_
    refine sp_bipush (v := (-6)) dX11_law_76 (by decide) ?_
    obtain ⟨x31, hx31, h⟩ := Option.bind_eq_some_iff.mp h
    refine sp_cV (M1 := x31.2) (r := some (.int x31.1)) (o := 103) (st := []) (c := 10) (RX11, TX11, 56) [.int (-6)] [.int (-6), .ref 103] [.int x31.1] dX11_law_78 okX11_tell tw_1388 tw_1390 tw_27 (by decide) (by decide) rfl (Nat.le_of_ble_eq_true rfl) rfl rfl rfl rfl (wsI_103 hs) (fun Q hQ => tX11_tell hG hx31 hQ) ?_
    cases h
    exact sp_iret dX11_law_81 (ty := .int) rfl rfl (fun _ => hQ)
set_option maxRecDepth 100000 in
set_option maxHeartbeats 4000000 in
theorem tX11_law {g : sp_G} {Ω : sp_Mem → Prop} {Q : sp_Qt} {F : Nat} {p : (Int32 × sp_Mem)} (hG : sp_Ok Ω) {M : sp_Mem} (h : fX11_law F M = some p) (hQ : Q (some (.int p.1)) p.2) : sp_Mt g Ω mX11_law 0 0 [.ref 103] M Q := by
  unfold fX11_law at h
  refine sp_Mt.of [some (.ref 103), none, none] (by decide) (by simp [sp_ent, Value.category]) rfl ?_
  refine sp_aload_n dX11_law_0 rfl rfl ?_
  refine sp_iconst (v := 0) dX11_law_1 (by decide) ?_
  refine sp_use (fun ho => ?_)
  have hs := hG.1 _ ho
  obtain ⟨M1, hM1, h⟩ := sp_do_e h
  refine sp_putI2 (RX11, TX11, 56) hG dX11_law_2 clX11 (j := 0) (by decide) tw_1215 rfl (Or.inl rfl) (wsI_103 hs) hM1 ?_
  refine sp_aload_n dX11_law_5 rfl rfl ?_
  refine sp_use (fun ho => ?_)
  have hs := hG.1 _ ho
  refine sp_getR (RX11, TX11, 56) dX11_law_6 clX11 (j := 3) (by decide) tw_1218 (wsI_103 hs) (Or.inr ⟨_, rfl⟩) (wsP_103_3 hs) ?_
  refine sp_iconst (v := 3) dX11_law_9 (by decide) ?_
  refine sp_iald2 (j := 3) dX11_law_10 (wsA_105 hs) (wsN_105 hs) rfl ?_
  refine sp_bipush (v := 6) dX11_law_11 (by decide) ?_
  refine sp_icmp_ne (tgt := 28) dX11_law_13 (by decide) (fun hc2 => ?_) (fun hc2 => ?_)
  · have h := (if_neg hc2).symm.trans h
    refine sp_aload_n dX11_law_28 rfl rfl ?_
    refine sp_iconst (v := 0) dX11_law_29 (by decide) ?_
    obtain ⟨M3, hM3, h⟩ := Option.bind_eq_some_iff.mp h
    refine sp_cV (M1 := M3) (r := none) (o := 103) (st := []) (c := 10) (RX11, TX11, 56) [.int 0] [.int 0, .ref 103] [] dX11_law_30 okX11_beginText tw_1549 tw_1551 tw_44 (by decide) (by decide) rfl (Nat.le_of_ble_eq_true rfl) rfl rfl rfl rfl (wsI_103 hs) (fun Q hQ => tX11_beginText hG hM3 hQ) ?_
    refine sp_aload_n dX11_law_33 rfl rfl ?_
    refine sp_use (fun ho => ?_)
    have hs := hG.1 _ ho
    obtain ⟨M4, hM4, h⟩ := Option.bind_eq_some_iff.mp h
    refine sp_cV (M1 := M4) (r := none) (o := 103) (st := []) (c := 10) (RX11, TX11, 56) [] [.ref 103] [] dX11_law_34 okX11_readLaw tw_1572 tw_1574 tw_47 (by decide) (by decide) rfl (Nat.le_of_ble_eq_true rfl) rfl rfl rfl rfl (wsI_103 hs) (fun Q hQ => tX11_readLaw hG hM4 hQ) ?_
    refine sp_weak [true, false, false] [some (.ref 103), none, none] rfl ?_
    refine tX11_law_l37 hG hQ (fun M9 h => ?_) F _ h
    refine sp_weak [true, false, false] [some (.ref 103), none, none] rfl ?_
    exact tX11_law_j64 hG hQ _ h
  · have h := (if_pos hc2).symm.trans h
    refine sp_aload_n dX11_law_16 rfl rfl ?_
    refine sp_iconst (v := 0) dX11_law_17 (by decide) ?_
    obtain ⟨M32, hM32, h⟩ := sp_do_e h
    refine sp_putI2 (RX11, TX11, 56) hG dX11_law_18 clX11 (j := 13) (by decide) tw_1228 rfl (Or.inl rfl) (wsI_103 hs) hM32 ?_
    refine sp_aload_n dX11_law_21 rfl rfl ?_
    refine sp_bipush (v := (-5)) dX11_law_22 (by decide) ?_
    refine sp_use (fun ho => ?_)
    have hs := hG.1 _ ho
    obtain ⟨x33, hx33, h⟩ := Option.bind_eq_some_iff.mp h
    refine sp_cV (M1 := x33.2) (r := some (.int x33.1)) (o := 103) (st := []) (c := 10) (RX11, TX11, 56) [.int (-5)] [.int (-5), .ref 103] [.int x33.1] dX11_law_24 okX11_tell tw_1388 tw_1390 tw_27 (by decide) (by decide) rfl (Nat.le_of_ble_eq_true rfl) rfl rfl rfl rfl (wsI_103 hs) (fun Q hQ => tX11_tell hG hx33 hQ) ?_
    cases h
    exact sp_iret dX11_law_27 (ty := .int) rfl rfl (fun _ => hQ)
def fX11_isLaw (M0 : sp_Mem) (a1 : Int32) : Option Int32 :=
  if a1 = (-1) then (some 1) else (some (if (fX11_in (Int32.toInt64 a1) 0 ((Int32.toInt64 (sp_I M0 105 3)) - 1)) = 0 then 0 else 1))
set_option maxRecDepth 100000 in
set_option maxHeartbeats 4000000 in
theorem tX11_isLaw {g : sp_G} {Ω : sp_Mem → Prop} {Q : sp_Qt} {M0 : sp_Mem} {p : Int32} (hG : sp_Ok Ω) {a1 : Int32} (h : fX11_isLaw M0 a1 = some p) (hQ : Q (some (.int p)) M0) : sp_Mt g Ω mX11_isLaw 0 0 [.ref 103, .int a1] M0 Q := by
  unfold fX11_isLaw at h
  refine sp_Mt.of [some (.ref 103), some (.int a1)] (by decide) (by simp [sp_ent, Value.category]) rfl ?_
  refine sp_iload_n dX11_isLaw_0 rfl rfl ?_
  refine sp_iconst (v := (-1)) dX11_isLaw_1 (by decide) ?_
  refine sp_icmp_eq (tgt := 23) dX11_isLaw_2 (by decide) (fun hc1 => ?_) (fun hc1 => ?_)
  · have h := (if_pos hc1).symm.trans h
    refine sp_iconst (v := 1) dX11_isLaw_23 (by decide) ?_
    refine sp_goto (tgt := 28) dX11_isLaw_24 (by decide) ?_
    cases h
    exact sp_iret dX11_isLaw_28 (ty := .boolean) rfl (sp_nz (Or.inr rfl)) (fun _ => hQ)
  · have h := (if_neg hc1).symm.trans h
    refine sp_iload_n dX11_isLaw_5 rfl rfl ?_
    refine sp_i2l dX11_isLaw_6 ?_
    refine sp_lconst (v := 0) dX11_isLaw_7 (by decide) ?_
    refine sp_aload_n dX11_isLaw_8 rfl rfl ?_
    refine sp_use (fun ho => ?_)
    have hs := hG.1 _ ho
    refine sp_getR (RX11, TX11, 56) dX11_isLaw_9 clX11 (j := 3) (by decide) tw_1218 (wsI_103 hs) (Or.inr ⟨_, rfl⟩) (wsP_103_3 hs) ?_
    refine sp_iconst (v := 3) dX11_isLaw_12 (by decide) ?_
    refine sp_iald2 (j := 3) dX11_isLaw_13 (wsA_105 hs) (wsN_105 hs) rfl ?_
    refine sp_i2l dX11_isLaw_14 ?_
    refine sp_lconst (v := 1) dX11_isLaw_15 (by decide) ?_
    refine sp_lsub dX11_isLaw_16 ?_
    refine sp_cS (M1 := M0) (r := some (.int (fX11_in (Int32.toInt64 a1) 0 ((Int32.toInt64 (sp_I M0 105 3)) - 1)))) (st := []) [.long (Int32.toInt64 a1), .long 0, .long ((Int32.toInt64 (sp_I M0 105 3)) - 1)] [.long ((Int32.toInt64 (sp_I M0 105 3)) - 1), .long 0, .long (Int32.toInt64 a1)] [.int (fX11_in (Int32.toInt64 a1) 0 ((Int32.toInt64 (sp_I M0 105 3)) - 1))] dX11_isLaw_17 okX11_in tw_1400 tw_1401 (by decide) (by decide) rfl (Nat.le_of_ble_eq_true rfl) rfl rfl (fun Q hQ => tX11_in hG rfl hQ) ?_
    suffices hj : sp_Wp g Ω mX11_isLaw 0 0 28 [none, none] [.int (if (fX11_in (Int32.toInt64 a1) 0 ((Int32.toInt64 (sp_I M0 105 3)) - 1)) = 0 then 0 else 1)] M0 Q by
      refine sp_if_eq (tgt := 27) dX11_isLaw_20 (by decide) (fun hc2 => ?_) (fun hc2 => ?_)
      · refine sp_iconst (v := 0) dX11_isLaw_27 (by decide) ?_
        refine sp_weak [false, false] [none, none] rfl ?_
        simp only [if_pos hc2] at hj
        exact hj
      · refine sp_iconst (v := 1) dX11_isLaw_23 (by decide) ?_
        refine sp_goto (tgt := 28) dX11_isLaw_24 (by decide) ?_
        refine sp_weak [false, false] [none, none] rfl ?_
        simp only [if_neg hc2] at hj
        exact hj
    cases h
    exact sp_iret dX11_isLaw_28 (ty := .boolean) rfl (sp_nz (by repeat (first | exact Or.inl rfl | exact Or.inr rfl | split))) (fun _ => hQ)
def fX11_force (M : sp_Mem) (a1 : Int32) : Option (Int32 × sp_Mem) :=
  sp_do (sp_setI M 103 0 0) fun M1 => (fX11_isLaw M1 a1).bind fun v2 => if v2 = 0 then ((fX11_tell M1 (-2)).bind fun x4 => some (x4.1, x4.2)) else ((fX11_change M1 4 a1).bind fun x5 => some (x5.1, x5.2))
set_option maxRecDepth 100000 in
set_option maxHeartbeats 4000000 in
theorem tX11_force {g : sp_G} {Ω : sp_Mem → Prop} {Q : sp_Qt} {p : (Int32 × sp_Mem)} (hG : sp_Ok Ω) {M : sp_Mem} {a1 : Int32} (h : fX11_force M a1 = some p) (hQ : Q (some (.int p.1)) p.2) : sp_Mt g Ω mX11_force 0 0 [.ref 103, .int a1] M Q := by
  unfold fX11_force at h
  refine sp_Mt.of [some (.ref 103), some (.int a1)] (by decide) (by simp [sp_ent, Value.category]) rfl ?_
  refine sp_aload_n dX11_force_0 rfl rfl ?_
  refine sp_iconst (v := 0) dX11_force_1 (by decide) ?_
  refine sp_use (fun ho => ?_)
  have hs := hG.1 _ ho
  obtain ⟨M1, hM1, h⟩ := sp_do_e h
  refine sp_putI2 (RX11, TX11, 56) hG dX11_force_2 clX11 (j := 0) (by decide) tw_1215 rfl (Or.inl rfl) (wsI_103 hs) hM1 ?_
  refine sp_aload_n dX11_force_5 rfl rfl ?_
  refine sp_iload_n dX11_force_6 rfl rfl ?_
  refine sp_use (fun ho => ?_)
  have hs := hG.1 _ ho
  obtain ⟨v2, hv2, h⟩ := Option.bind_eq_some_iff.mp h
  refine sp_cV (M1 := M1) (r := some (.int v2)) (o := 103) (st := []) (c := 10) (RX11, TX11, 56) [.int a1] [.int a1, .ref 103] [.int v2] dX11_force_7 okX11_isLaw tw_1667 tw_1669 tw_67 (by decide) (by decide) rfl (Nat.le_of_ble_eq_true rfl) rfl rfl rfl rfl (wsI_103 hs) (fun Q hQ => tX11_isLaw hG hv2 hQ) ?_
  refine sp_if_eq (tgt := 22) dX11_force_10 (by decide) (fun hc3 => ?_) (fun hc3 => ?_)
  · have h := (if_pos hc3).symm.trans h
    refine sp_aload_n dX11_force_22 rfl rfl ?_
    refine sp_bipush (v := (-2)) dX11_force_23 (by decide) ?_
    obtain ⟨x4, hx4, h⟩ := Option.bind_eq_some_iff.mp h
    refine sp_cV (M1 := x4.2) (r := some (.int x4.1)) (o := 103) (st := []) (c := 10) (RX11, TX11, 56) [.int (-2)] [.int (-2), .ref 103] [.int x4.1] dX11_force_25 okX11_tell tw_1388 tw_1390 tw_27 (by decide) (by decide) rfl (Nat.le_of_ble_eq_true rfl) rfl rfl rfl rfl (wsI_103 hs) (fun Q hQ => tX11_tell hG hx4 hQ) ?_
    cases h
    exact sp_iret dX11_force_28 (ty := .int) rfl rfl (fun _ => hQ)
  · have h := (if_neg hc3).symm.trans h
    refine sp_aload_n dX11_force_13 rfl rfl ?_
    refine sp_iconst (v := 4) dX11_force_14 (by decide) ?_
    refine sp_iload_n dX11_force_15 rfl rfl ?_
    obtain ⟨x5, hx5, h⟩ := Option.bind_eq_some_iff.mp h
    refine sp_cV (M1 := x5.2) (r := some (.int x5.1)) (o := 103) (st := []) (c := 10) (RX11, TX11, 56) [.int 4, .int a1] [.int a1, .int 4, .ref 103] [.int x5.1] dX11_force_16 okX11_change tw_1491 tw_1493 tw_40 (by decide) (by decide) rfl (Nat.le_of_ble_eq_true rfl) rfl rfl rfl rfl (wsI_103 hs) (fun Q hQ => tX11_change hG hx5 hQ) ?_
    refine sp_goto (tgt := 28) dX11_force_19 (by decide) ?_
    cases h
    exact sp_iret dX11_force_28 (ty := .int) rfl rfl (fun _ => hQ)
def fX11_isBarred (F : Nat) (M : sp_Mem) (a1 : Int32) (a2 : Int32) : Option (Int32 × sp_Mem) :=
  (sp_ix 5480 (26 + a2)).bind fun j1 => if (sp_I M 105 j1) = 3 then (some (1, M)) else ((fX11_tells F M 3 a1 a2 (-1) 0).bind fun x3 => some ((if x3.1 = 1 then 1 else 0), x3.2))
set_option maxRecDepth 100000 in
set_option maxHeartbeats 4000000 in
theorem tX11_isBarred {g : sp_G} {Ω : sp_Mem → Prop} {Q : sp_Qt} {F : Nat} {p : (Int32 × sp_Mem)} (hG : sp_Ok Ω) {M : sp_Mem} {a1 : Int32} {a2 : Int32} (h : fX11_isBarred F M a1 a2 = some p) (hQ : Q (some (.int p.1)) p.2) : sp_Mt g Ω mX11_isBarred 0 0 [.ref 103, .int a1, .int a2] M Q := by
  unfold fX11_isBarred at h
  refine sp_Mt.of [some (.ref 103), some (.int a1), some (.int a2)] (by decide) (by simp [sp_ent, Value.category]) rfl ?_
  refine sp_aload_n dX11_isBarred_0 rfl rfl ?_
  refine sp_use (fun ho => ?_)
  have hs := hG.1 _ ho
  refine sp_getR (RX11, TX11, 56) dX11_isBarred_1 clX11 (j := 3) (by decide) tw_1218 (wsI_103 hs) (Or.inr ⟨_, rfl⟩) (wsP_103_3 hs) ?_
  refine sp_bipush (v := 26) dX11_isBarred_4 (by decide) ?_
  refine sp_iload_n dX11_isBarred_6 rfl rfl ?_
  refine sp_iadd dX11_isBarred_7 ?_
  obtain ⟨j1, hj1, h⟩ := Option.bind_eq_some_iff.mp h
  refine sp_iald2 (j := j1) dX11_isBarred_8 (wsA_105 hs) (wsN_105 hs) hj1 ?_
  refine sp_iconst (v := 3) dX11_isBarred_9 (by decide) ?_
  refine sp_icmp_eq (tgt := 27) dX11_isBarred_10 (by decide) (fun hc2 => ?_) (fun hc2 => ?_)
  · have h := (if_pos hc2).symm.trans h
    refine sp_iconst (v := 1) dX11_isBarred_27 (by decide) ?_
    refine sp_goto (tgt := 32) dX11_isBarred_28 (by decide) ?_
    cases h
    exact sp_iret dX11_isBarred_32 (ty := .boolean) rfl (sp_nz (Or.inr rfl)) (fun _ => hQ)
  · have h := (if_neg hc2).symm.trans h
    refine sp_aload_n dX11_isBarred_13 rfl rfl ?_
    refine sp_iconst (v := 3) dX11_isBarred_14 (by decide) ?_
    refine sp_iload_n dX11_isBarred_15 rfl rfl ?_
    refine sp_iload_n dX11_isBarred_16 rfl rfl ?_
    refine sp_iconst (v := (-1)) dX11_isBarred_17 (by decide) ?_
    refine sp_lconst (v := 0) dX11_isBarred_18 (by decide) ?_
    obtain ⟨x3, hx3, h⟩ := Option.bind_eq_some_iff.mp h
    refine sp_cV (M1 := x3.2) (r := some (.long x3.1)) (o := 103) (st := []) (c := 10) (RX11, TX11, 56) [.int 3, .int a1, .int a2, .int (-1), .long 0] [.long 0, .int (-1), .int a2, .int a1, .int 3, .ref 103] [.long x3.1] dX11_isBarred_19 okX11_tells tw_1436 tw_1438 tw_33 (by decide) (by decide) rfl (Nat.le_of_ble_eq_true rfl) rfl rfl rfl rfl (wsI_103 hs) (fun Q hQ => tX11_tells hG hx3 hQ) ?_
    refine sp_lconst (v := 1) dX11_isBarred_22 (by decide) ?_
    refine sp_lcmp dX11_isBarred_23 ?_
    suffices hj : sp_Wp g Ω mX11_isBarred 0 0 32 [none, none, none] [.int (if x3.1 = 1 then 1 else 0)] x3.2 Q by
      refine sp_lif_ne (tgt := 31) dX11_isBarred_24 (by decide) (fun hc4 => ?_) (fun hc4 => ?_)
      · refine sp_iconst (v := 0) dX11_isBarred_31 (by decide) ?_
        refine sp_weak [false, false, false] [none, none, none] rfl ?_
        simp only [if_neg hc4] at hj
        exact hj
      · refine sp_iconst (v := 1) dX11_isBarred_27 (by decide) ?_
        refine sp_goto (tgt := 32) dX11_isBarred_28 (by decide) ?_
        refine sp_weak [false, false, false] [none, none, none] rfl ?_
        simp only [if_pos hc4] at hj
        exact hj
    cases h
    exact sp_iret dX11_isBarred_32 (ty := .boolean) rfl (sp_nz (by repeat (first | exact Or.inl rfl | exact Or.inr rfl | split))) (fun _ => hQ)
def fX11_endSpark (M : sp_Mem) (a1 : Int32) : Option sp_Mem :=
  (sp_ix 5480 (9 + a1)).bind fun j1 => sp_do (sp_setI M 105 j1 (-1)) fun M2 => (sp_ix 5480 (15 + a1)).bind fun j3 => sp_do (sp_setI M2 105 j3 0) fun M4 => some M4
set_option maxRecDepth 100000 in
set_option maxHeartbeats 4000000 in
theorem tX11_endSpark {g : sp_G} {Ω : sp_Mem → Prop} {Q : sp_Qt} {p : sp_Mem} (hG : sp_Ok Ω) {M : sp_Mem} {a1 : Int32} (h : fX11_endSpark M a1 = some p) (hQ : Q none p) : sp_Mt g Ω mX11_endSpark 0 0 [.ref 103, .int a1] M Q := by
  unfold fX11_endSpark at h
  refine sp_Mt.of [some (.ref 103), some (.int a1)] (by decide) (by simp [sp_ent, Value.category]) rfl ?_
  refine sp_aload_n dX11_endSpark_0 rfl rfl ?_
  refine sp_use (fun ho => ?_)
  have hs := hG.1 _ ho
  refine sp_getR (RX11, TX11, 56) dX11_endSpark_1 clX11 (j := 3) (by decide) tw_1218 (wsI_103 hs) (Or.inr ⟨_, rfl⟩) (wsP_103_3 hs) ?_
  refine sp_bipush (v := 9) dX11_endSpark_4 (by decide) ?_
  refine sp_iload_n dX11_endSpark_6 rfl rfl ?_
  refine sp_iadd dX11_endSpark_7 ?_
  refine sp_iconst (v := (-1)) dX11_endSpark_8 (by decide) ?_
  obtain ⟨j1, hj1, h⟩ := Option.bind_eq_some_iff.mp h
  obtain ⟨M2, hM2, h⟩ := sp_do_e h
  refine sp_iast2 (j := j1) hG dX11_endSpark_9 (wsA_105 hs) (wsN_105 hs) hj1 hM2 ?_
  refine sp_aload_n dX11_endSpark_10 rfl rfl ?_
  refine sp_use (fun ho => ?_)
  have hs := hG.1 _ ho
  refine sp_getR (RX11, TX11, 56) dX11_endSpark_11 clX11 (j := 3) (by decide) tw_1218 (wsI_103 hs) (Or.inr ⟨_, rfl⟩) (wsP_103_3 hs) ?_
  refine sp_bipush (v := 15) dX11_endSpark_14 (by decide) ?_
  refine sp_iload_n dX11_endSpark_16 rfl rfl ?_
  refine sp_iadd dX11_endSpark_17 ?_
  refine sp_iconst (v := 0) dX11_endSpark_18 (by decide) ?_
  obtain ⟨j3, hj3, h⟩ := Option.bind_eq_some_iff.mp h
  obtain ⟨M4, hM4, h⟩ := sp_do_e h
  refine sp_iast2 (j := j3) hG dX11_endSpark_19 (wsA_105 hs) (wsN_105 hs) hj3 hM4 ?_
  cases h
  exact sp_vret dX11_endSpark_20 rfl (fun _ => hQ)
def fX11_callIt (M : sp_Mem) (a1 : Int32) (a2 : Int32) : Option sp_Mem :=
  (sp_ix 5480 (21 + a2)).bind fun j1 => (sp_ix 5480 (9 + a1)).bind fun j2 => sp_do (sp_setI M 105 j2 (sp_I M 105 j1)) fun M3 => (sp_ix 5480 (21 + a2)).bind fun j4 => if (sp_I M3 105 j4) = (sp_I M3 105 8) then ((fX11_endSpark M3 a1).bind fun M6 => some M6) else (some M3)
set_option maxRecDepth 100000 in
set_option maxHeartbeats 4000000 in
theorem tX11_callIt {g : sp_G} {Ω : sp_Mem → Prop} {Q : sp_Qt} {p : sp_Mem} (hG : sp_Ok Ω) {M : sp_Mem} {a1 : Int32} {a2 : Int32} (h : fX11_callIt M a1 a2 = some p) (hQ : Q none p) : sp_Mt g Ω mX11_callIt 0 0 [.ref 103, .int a1, .int a2] M Q := by
  unfold fX11_callIt at h
  refine sp_Mt.of [some (.ref 103), some (.int a1), some (.int a2)] (by decide) (by simp [sp_ent, Value.category]) rfl ?_
  refine sp_aload_n dX11_callIt_0 rfl rfl ?_
  refine sp_use (fun ho => ?_)
  have hs := hG.1 _ ho
  refine sp_getR (RX11, TX11, 56) dX11_callIt_1 clX11 (j := 3) (by decide) tw_1218 (wsI_103 hs) (Or.inr ⟨_, rfl⟩) (wsP_103_3 hs) ?_
  refine sp_bipush (v := 9) dX11_callIt_4 (by decide) ?_
  refine sp_iload_n dX11_callIt_6 rfl rfl ?_
  refine sp_iadd dX11_callIt_7 ?_
  refine sp_aload_n dX11_callIt_8 rfl rfl ?_
  refine sp_getR (RX11, TX11, 56) dX11_callIt_9 clX11 (j := 3) (by decide) tw_1218 (wsI_103 hs) (Or.inr ⟨_, rfl⟩) (wsP_103_3 hs) ?_
  refine sp_bipush (v := 21) dX11_callIt_12 (by decide) ?_
  refine sp_iload_n dX11_callIt_14 rfl rfl ?_
  refine sp_iadd dX11_callIt_15 ?_
  obtain ⟨j1, hj1, h⟩ := Option.bind_eq_some_iff.mp h
  refine sp_iald2 (j := j1) dX11_callIt_16 (wsA_105 hs) (wsN_105 hs) hj1 ?_
  obtain ⟨j2, hj2, h⟩ := Option.bind_eq_some_iff.mp h
  obtain ⟨M3, hM3, h⟩ := sp_do_e h
  refine sp_iast2 (j := j2) hG dX11_callIt_17 (wsA_105 hs) (wsN_105 hs) hj2 hM3 ?_
  refine sp_aload_n dX11_callIt_18 rfl rfl ?_
  refine sp_use (fun ho => ?_)
  have hs := hG.1 _ ho
  refine sp_getR (RX11, TX11, 56) dX11_callIt_19 clX11 (j := 3) (by decide) tw_1218 (wsI_103 hs) (Or.inr ⟨_, rfl⟩) (wsP_103_3 hs) ?_
  refine sp_bipush (v := 21) dX11_callIt_22 (by decide) ?_
  refine sp_iload_n dX11_callIt_24 rfl rfl ?_
  refine sp_iadd dX11_callIt_25 ?_
  obtain ⟨j4, hj4, h⟩ := Option.bind_eq_some_iff.mp h
  refine sp_iald2 (j := j4) dX11_callIt_26 (wsA_105 hs) (wsN_105 hs) hj4 ?_
  refine sp_aload_n dX11_callIt_27 rfl rfl ?_
  refine sp_getR (RX11, TX11, 56) dX11_callIt_28 clX11 (j := 3) (by decide) tw_1218 (wsI_103 hs) (Or.inr ⟨_, rfl⟩) (wsP_103_3 hs) ?_
  refine sp_bipush (v := 8) dX11_callIt_31 (by decide) ?_
  refine sp_iald2 (j := 8) dX11_callIt_33 (wsA_105 hs) (wsN_105 hs) rfl ?_
  refine sp_icmp_ne (tgt := 42) dX11_callIt_34 (by decide) (fun hc5 => ?_) (fun hc5 => ?_)
  · have h := (if_neg hc5).symm.trans h
    cases h
    exact sp_vret dX11_callIt_42 rfl (fun _ => hQ)
  · have h := (if_pos hc5).symm.trans h
    refine sp_aload_n dX11_callIt_37 rfl rfl ?_
    refine sp_iload_n dX11_callIt_38 rfl rfl ?_
    obtain ⟨M6, hM6, h⟩ := Option.bind_eq_some_iff.mp h
    refine sp_cV (M1 := M6) (r := none) (o := 103) (st := []) (c := 10) (RX11, TX11, 56) [.int a1] [.int a1, .ref 103] [] dX11_callIt_39 okX11_endSpark tw_1695 tw_1697 tw_73 (by decide) (by decide) rfl (Nat.le_of_ble_eq_true rfl) rfl rfl rfl rfl (wsI_103 hs) (fun Q hQ => tX11_endSpark hG hM6 hQ) ?_
    cases h
    exact sp_vret dX11_callIt_42 rfl (fun _ => hQ)
def fX11_canCall (F : Nat) (M : sp_Mem) (a1 : Int32) (a2 : Int32) : Option (Int32 × sp_Mem) :=
  (fX11_isLoose M a1).bind fun v1 => if v1 = 0 then (some (0, M)) else ((sp_ix 5480 (9 + a1)).bind fun j3 => (fX11_comes F M a1 a2 (sp_I M 105 j3)).bind fun x4 => some ((if x4.1 = 0 then 0 else 1), x4.2))
set_option maxRecDepth 100000 in
set_option maxHeartbeats 4000000 in
theorem tX11_canCall {g : sp_G} {Ω : sp_Mem → Prop} {Q : sp_Qt} {F : Nat} {p : (Int32 × sp_Mem)} (hG : sp_Ok Ω) {M : sp_Mem} {a1 : Int32} {a2 : Int32} (h : fX11_canCall F M a1 a2 = some p) (hQ : Q (some (.int p.1)) p.2) : sp_Mt g Ω mX11_canCall 0 0 [.ref 103, .int a1, .int a2] M Q := by
  unfold fX11_canCall at h
  refine sp_Mt.of [some (.ref 103), some (.int a1), some (.int a2)] (by decide) (by simp [sp_ent, Value.category]) rfl ?_
  refine sp_aload_n dX11_canCall_0 rfl rfl ?_
  refine sp_iload_n dX11_canCall_1 rfl rfl ?_
  refine sp_use (fun ho => ?_)
  have hs := hG.1 _ ho
  obtain ⟨v1, hv1, h⟩ := Option.bind_eq_some_iff.mp h
  refine sp_cV (M1 := M) (r := some (.int v1)) (o := 103) (st := []) (c := 10) (RX11, TX11, 56) [.int a1] [.int a1, .ref 103] [.int v1] dX11_canCall_2 okX11_isLoose tw_1428 tw_1430 tw_31 (by decide) (by decide) rfl (Nat.le_of_ble_eq_true rfl) rfl rfl rfl rfl (wsI_103 hs) (fun Q hQ => tX11_isLoose hG hv1 hQ) ?_
  refine sp_if_eq (tgt := 30) dX11_canCall_5 (by decide) (fun hc2 => ?_) (fun hc2 => ?_)
  · have h := (if_pos hc2).symm.trans h
    refine sp_iconst (v := 0) dX11_canCall_30 (by decide) ?_
    cases h
    exact sp_iret dX11_canCall_31 (ty := .boolean) rfl (sp_nz (Or.inl rfl)) (fun _ => hQ)
  · have h := (if_neg hc2).symm.trans h
    refine sp_aload_n dX11_canCall_8 rfl rfl ?_
    refine sp_iload_n dX11_canCall_9 rfl rfl ?_
    refine sp_iload_n dX11_canCall_10 rfl rfl ?_
    refine sp_aload_n dX11_canCall_11 rfl rfl ?_
    refine sp_getR (RX11, TX11, 56) dX11_canCall_12 clX11 (j := 3) (by decide) tw_1218 (wsI_103 hs) (Or.inr ⟨_, rfl⟩) (wsP_103_3 hs) ?_
    refine sp_bipush (v := 9) dX11_canCall_15 (by decide) ?_
    refine sp_iload_n dX11_canCall_17 rfl rfl ?_
    refine sp_iadd dX11_canCall_18 ?_
    obtain ⟨j3, hj3, h⟩ := Option.bind_eq_some_iff.mp h
    refine sp_iald2 (j := j3) dX11_canCall_19 (wsA_105 hs) (wsN_105 hs) hj3 ?_
    obtain ⟨x4, hx4, h⟩ := Option.bind_eq_some_iff.mp h
    refine sp_cV (M1 := x4.2) (r := some (.int x4.1)) (o := 103) (st := []) (c := 10) (RX11, TX11, 56) [.int a1, .int a2, .int (sp_I M 105 j3)] [.int (sp_I M 105 j3), .int a2, .int a1, .ref 103] [.int x4.1] dX11_canCall_20 okX11_comes tw_1503 tw_1505 tw_42 (by decide) (by decide) rfl (Nat.le_of_ble_eq_true rfl) rfl rfl rfl rfl (wsI_103 hs) (fun Q hQ => tX11_comes hG hx4 hQ) ?_
    suffices hj : sp_Wp g Ω mX11_canCall 0 0 31 [none, none, none] [.int (if x4.1 = 0 then 0 else 1)] x4.2 Q by
      refine sp_if_eq (tgt := 30) dX11_canCall_23 (by decide) (fun hc5 => ?_) (fun hc5 => ?_)
      · refine sp_iconst (v := 0) dX11_canCall_30 (by decide) ?_
        refine sp_weak [false, false, false] [none, none, none] rfl ?_
        simp only [if_pos hc5] at hj
        exact hj
      · refine sp_iconst (v := 1) dX11_canCall_26 (by decide) ?_
        refine sp_goto (tgt := 31) dX11_canCall_27 (by decide) ?_
        refine sp_weak [false, false, false] [none, none, none] rfl ?_
        simp only [if_neg hc5] at hj
        exact hj
    cases h
    exact sp_iret dX11_canCall_31 (ty := .boolean) rfl (sp_nz (by repeat (first | exact Or.inl rfl | exact Or.inr rfl | split))) (fun _ => hQ)
def fX11_callNow (F : Nat) (M : sp_Mem) (a1 : Int32) (a2 : Int32) : Option (Int32 × sp_Mem) :=
  (fX11_isSpark M a1).bind fun v1 => if v1 = 0 then (some ((-2), M)) else ((fX11_isPerson M a2).bind fun v3 => if v3 = 0 then (some ((-2), M)) else ((fX11_canCall F M a1 a2).bind fun x5 => if x5.1 = 0 then (some ((-3), x5.2)) else ((fX11_remember F x5.2 0).bind fun M7 => (sp_ix 5480 (9 + a1)).bind fun j8 => (sp_ix 5480 (21 + a2)).bind fun j9 => (fX11_apart (sp_I M7 105 j8) (sp_I M7 105 j9)).bind fun v10 => (fX11_callIt M7 a1 a2).bind fun M11 => some (v10, M11))))
set_option maxRecDepth 100000 in
set_option maxHeartbeats 4000000 in
theorem tX11_callNow {g : sp_G} {Ω : sp_Mem → Prop} {Q : sp_Qt} {F : Nat} {p : (Int32 × sp_Mem)} (hG : sp_Ok Ω) {M : sp_Mem} {a1 : Int32} {a2 : Int32} (h : fX11_callNow F M a1 a2 = some p) (hQ : Q (some (.int p.1)) p.2) : sp_Mt g Ω mX11_callNow 0 0 [.ref 103, .int a1, .int a2] M Q := by
  unfold fX11_callNow at h
  refine sp_Mt.of [some (.ref 103), some (.int a1), some (.int a2), none] (by decide) (by simp [sp_ent, Value.category]) rfl ?_
  refine sp_aload_n dX11_callNow_0 rfl rfl ?_
  refine sp_iload_n dX11_callNow_1 rfl rfl ?_
  refine sp_use (fun ho => ?_)
  have hs := hG.1 _ ho
  obtain ⟨v1, hv1, h⟩ := Option.bind_eq_some_iff.mp h
  refine sp_cV (M1 := M) (r := some (.int v1)) (o := 103) (st := []) (c := 10) (RX11, TX11, 56) [.int a1] [.int a1, .ref 103] [.int v1] dX11_callNow_2 okX11_isSpark tw_1424 tw_1426 tw_30 (by decide) (by decide) rfl (Nat.le_of_ble_eq_true rfl) rfl rfl rfl rfl (wsI_103 hs) (fun Q hQ => tX11_isSpark hG hv1 hQ) ?_
  refine sp_if_eq (tgt := 16) dX11_callNow_5 (by decide) (fun hc2 => ?_) (fun hc2 => ?_)
  · have h := (if_pos hc2).symm.trans h
    refine sp_bipush (v := (-2)) dX11_callNow_16 (by decide) ?_
    cases h
    exact sp_iret dX11_callNow_18 (ty := .int) rfl rfl (fun _ => hQ)
  · have h := (if_neg hc2).symm.trans h
    refine sp_aload_n dX11_callNow_8 rfl rfl ?_
    refine sp_iload_n dX11_callNow_9 rfl rfl ?_
    obtain ⟨v3, hv3, h⟩ := Option.bind_eq_some_iff.mp h
    refine sp_cV (M1 := M) (r := some (.int v3)) (o := 103) (st := []) (c := 10) (RX11, TX11, 56) [.int a2] [.int a2, .ref 103] [.int v3] dX11_callNow_10 okX11_isPerson tw_1482 tw_1484 tw_39 (by decide) (by decide) rfl (Nat.le_of_ble_eq_true rfl) rfl rfl rfl rfl (wsI_103 hs) (fun Q hQ => tX11_isPerson hG hv3 hQ) ?_
    refine sp_if_ne (tgt := 19) dX11_callNow_13 (by decide) (fun hc4 => ?_) (fun hc4 => ?_)
    · have h := (if_neg hc4).symm.trans h
      refine sp_aload_n dX11_callNow_19 rfl rfl ?_
      refine sp_iload_n dX11_callNow_20 rfl rfl ?_
      refine sp_iload_n dX11_callNow_21 rfl rfl ?_
      obtain ⟨x5, hx5, h⟩ := Option.bind_eq_some_iff.mp h
      refine sp_cV (M1 := x5.2) (r := some (.int x5.1)) (o := 103) (st := []) (c := 10) (RX11, TX11, 56) [.int a1, .int a2] [.int a2, .int a1, .ref 103] [.int x5.1] dX11_callNow_22 okX11_canCall tw_1679 tw_1681 tw_69 (by decide) (by decide) rfl (Nat.le_of_ble_eq_true rfl) rfl rfl rfl rfl (wsI_103 hs) (fun Q hQ => tX11_canCall hG hx5 hQ) ?_
      refine sp_if_ne (tgt := 31) dX11_callNow_25 (by decide) (fun hc6 => ?_) (fun hc6 => ?_)
      · have h := (if_neg hc6).symm.trans h
        refine sp_aload_n dX11_callNow_31 rfl rfl ?_
        refine sp_iconst (v := 0) dX11_callNow_32 (by decide) ?_
        refine sp_use (fun ho => ?_)
        have hs := hG.1 _ ho
        obtain ⟨M7, hM7, h⟩ := Option.bind_eq_some_iff.mp h
        refine sp_cV (M1 := M7) (r := none) (o := 103) (st := []) (c := 10) (RX11, TX11, 56) [.int 0] [.int 0, .ref 103] [] dX11_callNow_33 okX11_remember tw_1683 tw_1685 tw_70 (by decide) (by decide) rfl (Nat.le_of_ble_eq_true rfl) rfl rfl rfl rfl (wsI_103 hs) (fun Q hQ => tX11_remember hG hM7 hQ) ?_
        refine sp_aload_n dX11_callNow_36 rfl rfl ?_
        refine sp_use (fun ho => ?_)
        have hs := hG.1 _ ho
        refine sp_getR (RX11, TX11, 56) dX11_callNow_37 clX11 (j := 3) (by decide) tw_1218 (wsI_103 hs) (Or.inr ⟨_, rfl⟩) (wsP_103_3 hs) ?_
        refine sp_bipush (v := 9) dX11_callNow_40 (by decide) ?_
        refine sp_iload_n dX11_callNow_42 rfl rfl ?_
        refine sp_iadd dX11_callNow_43 ?_
        obtain ⟨j8, hj8, h⟩ := Option.bind_eq_some_iff.mp h
        refine sp_iald2 (j := j8) dX11_callNow_44 (wsA_105 hs) (wsN_105 hs) hj8 ?_
        refine sp_aload_n dX11_callNow_45 rfl rfl ?_
        refine sp_getR (RX11, TX11, 56) dX11_callNow_46 clX11 (j := 3) (by decide) tw_1218 (wsI_103 hs) (Or.inr ⟨_, rfl⟩) (wsP_103_3 hs) ?_
        refine sp_bipush (v := 21) dX11_callNow_49 (by decide) ?_
        refine sp_iload_n dX11_callNow_51 rfl rfl ?_
        refine sp_iadd dX11_callNow_52 ?_
        obtain ⟨j9, hj9, h⟩ := Option.bind_eq_some_iff.mp h
        refine sp_iald2 (j := j9) dX11_callNow_53 (wsA_105 hs) (wsN_105 hs) hj9 ?_
        obtain ⟨v10, hv10, h⟩ := Option.bind_eq_some_iff.mp h
        refine sp_cS (M1 := M7) (r := some (.int v10)) (st := []) [.int (sp_I M7 105 j8), .int (sp_I M7 105 j9)] [.int (sp_I M7 105 j9), .int (sp_I M7 105 j8)] [.int v10] dX11_callNow_54 okX11_apart tw_1440 tw_1441 (by decide) (by decide) rfl (Nat.le_of_ble_eq_true rfl) rfl rfl (fun Q hQ => tX11_apart hG hv10 hQ) ?_
        refine sp_istore_n [some (.ref 103), some (.int a1), some (.int a2), some (.int v10)] dX11_callNow_57 rfl (by decide) rfl ?_
        refine sp_aload_n dX11_callNow_58 rfl rfl ?_
        refine sp_iload_n dX11_callNow_59 rfl rfl ?_
        refine sp_iload_n dX11_callNow_60 rfl rfl ?_
        obtain ⟨M11, hM11, h⟩ := Option.bind_eq_some_iff.mp h
        refine sp_cV (M1 := M11) (r := none) (o := 103) (st := []) (c := 10) (RX11, TX11, 56) [.int a1, .int a2] [.int a2, .int a1, .ref 103] [] dX11_callNow_61 okX11_callIt tw_1691 tw_1693 tw_72 (by decide) (by decide) rfl (Nat.le_of_ble_eq_true rfl) rfl rfl rfl rfl (wsI_103 hs) (fun Q hQ => tX11_callIt hG hM11 hQ) ?_
        refine sp_iload_n dX11_callNow_64 rfl rfl ?_
        cases h
        exact sp_iret dX11_callNow_65 (ty := .int) rfl rfl (fun _ => hQ)
      · have h := (if_pos hc6).symm.trans h
        refine sp_bipush (v := (-3)) dX11_callNow_28 (by decide) ?_
        cases h
        exact sp_iret dX11_callNow_30 (ty := .int) rfl rfl (fun _ => hQ)
    · have h := (if_pos hc4).symm.trans h
      refine sp_bipush (v := (-2)) dX11_callNow_16 (by decide) ?_
      cases h
      exact sp_iret dX11_callNow_18 (ty := .int) rfl rfl (fun _ => hQ)
def fX11_call (F : Nat) (M : sp_Mem) (a1 : Int32) (a2 : Int32) : Option (Int32 × sp_Mem) :=
  sp_do (sp_setI M 103 0 0) fun M1 => (fX11_callNow F M1 a1 a2).bind fun x2 => (fX11_tell x2.2 x2.1).bind fun x3 => some (x3.1, x3.2)
set_option maxRecDepth 100000 in
set_option maxHeartbeats 4000000 in
theorem tX11_call {g : sp_G} {Ω : sp_Mem → Prop} {Q : sp_Qt} {F : Nat} {p : (Int32 × sp_Mem)} (hG : sp_Ok Ω) {M : sp_Mem} {a1 : Int32} {a2 : Int32} (h : fX11_call F M a1 a2 = some p) (hQ : Q (some (.int p.1)) p.2) : sp_Mt g Ω mX11_call 0 0 [.ref 103, .int a1, .int a2] M Q := by
  unfold fX11_call at h
  refine sp_Mt.of [some (.ref 103), some (.int a1), some (.int a2)] (by decide) (by simp [sp_ent, Value.category]) rfl ?_
  refine sp_aload_n dX11_call_0 rfl rfl ?_
  refine sp_iconst (v := 0) dX11_call_1 (by decide) ?_
  refine sp_use (fun ho => ?_)
  have hs := hG.1 _ ho
  obtain ⟨M1, hM1, h⟩ := sp_do_e h
  refine sp_putI2 (RX11, TX11, 56) hG dX11_call_2 clX11 (j := 0) (by decide) tw_1215 rfl (Or.inl rfl) (wsI_103 hs) hM1 ?_
  refine sp_aload_n dX11_call_5 rfl rfl ?_
  refine sp_aload_n dX11_call_6 rfl rfl ?_
  refine sp_iload_n dX11_call_7 rfl rfl ?_
  refine sp_iload_n dX11_call_8 rfl rfl ?_
  refine sp_use (fun ho => ?_)
  have hs := hG.1 _ ho
  obtain ⟨x2, hx2, h⟩ := Option.bind_eq_some_iff.mp h
  refine sp_cV (M1 := x2.2) (r := some (.int x2.1)) (o := 103) (st := [.ref 103]) (c := 10) (RX11, TX11, 56) [.int a1, .int a2] [.int a2, .int a1, .ref 103, .ref 103] [.int x2.1, .ref 103] dX11_call_9 okX11_callNow tw_1675 tw_1677 tw_68 (by decide) (by decide) rfl (Nat.le_of_ble_eq_true rfl) rfl rfl rfl rfl (wsI_103 hs) (fun Q hQ => tX11_callNow hG hx2 hQ) ?_
  refine sp_use (fun ho => ?_)
  have hs := hG.1 _ ho
  obtain ⟨x3, hx3, h⟩ := Option.bind_eq_some_iff.mp h
  refine sp_cV (M1 := x3.2) (r := some (.int x3.1)) (o := 103) (st := []) (c := 10) (RX11, TX11, 56) [.int x2.1] [.int x2.1, .ref 103] [.int x3.1] dX11_call_12 okX11_tell tw_1388 tw_1390 tw_27 (by decide) (by decide) rfl (Nat.le_of_ble_eq_true rfl) rfl rfl rfl rfl (wsI_103 hs) (fun Q hQ => tX11_tell hG hx3 hQ) ?_
  cases h
  exact sp_iret dX11_call_15 (ty := .int) rfl rfl (fun _ => hQ)
def fX11_wetNow (F : Nat) (M : sp_Mem) (a1 : Int32) : Option (Int32 × sp_Mem) :=
  if (fX11_isCell a1) = 0 then (some ((-1), M)) else ((sp_ix 5480 (26 + a1)).bind fun j2 => sp_do ((sp_I M 105 j2)) fun u3 => if u3 = 1 then (some ((-3), M)) else (if u3 = 3 then (some ((-3), M)) else ((fX11_remember F M 1).bind fun M6 => (sp_ix 5480 (26 + a1)).bind fun j7 => sp_do (sp_setI M6 105 j7 1) fun M8 => some (u3, M8))))
set_option maxRecDepth 100000 in
set_option maxHeartbeats 4000000 in
theorem tX11_wetNow {g : sp_G} {Ω : sp_Mem → Prop} {Q : sp_Qt} {F : Nat} {p : (Int32 × sp_Mem)} (hG : sp_Ok Ω) {M : sp_Mem} {a1 : Int32} (h : fX11_wetNow F M a1 = some p) (hQ : Q (some (.int p.1)) p.2) : sp_Mt g Ω mX11_wetNow 0 0 [.ref 103, .int a1] M Q := by
  unfold fX11_wetNow at h
  refine sp_Mt.of [some (.ref 103), some (.int a1), none] (by decide) (by simp [sp_ent, Value.category]) rfl ?_
  refine sp_iload_n dX11_wetNow_0 rfl rfl ?_
  refine sp_use (fun ho => ?_)
  have hs := hG.1 _ ho
  refine sp_cS (M1 := M) (r := some (.int (fX11_isCell a1))) (st := []) [.int a1] [.int a1] [.int (fX11_isCell a1)] dX11_wetNow_1 okX11_isCell tw_1415 tw_1416 (by decide) (by decide) rfl (Nat.le_of_ble_eq_true rfl) rfl rfl (fun Q hQ => tX11_isCell hG rfl hQ) ?_
  refine sp_if_ne (tgt := 9) dX11_wetNow_4 (by decide) (fun hc1 => ?_) (fun hc1 => ?_)
  · have h := (if_neg hc1).symm.trans h
    refine sp_aload_n dX11_wetNow_9 rfl rfl ?_
    refine sp_getR (RX11, TX11, 56) dX11_wetNow_10 clX11 (j := 3) (by decide) tw_1218 (wsI_103 hs) (Or.inr ⟨_, rfl⟩) (wsP_103_3 hs) ?_
    refine sp_bipush (v := 26) dX11_wetNow_13 (by decide) ?_
    refine sp_iload_n dX11_wetNow_15 rfl rfl ?_
    refine sp_iadd dX11_wetNow_16 ?_
    obtain ⟨j2, hj2, h⟩ := Option.bind_eq_some_iff.mp h
    refine sp_iald2 (j := j2) dX11_wetNow_17 (wsA_105 hs) (wsN_105 hs) hj2 ?_
    obtain ⟨u3, hu3, h⟩ := sp_do_e h
    refine sp_topi hu3 ?_
    refine sp_istore_n [some (.ref 103), some (.int a1), some (.int u3)] dX11_wetNow_18 rfl (by decide) rfl ?_
    refine sp_iload_n dX11_wetNow_19 rfl rfl ?_
    refine sp_iconst (v := 1) dX11_wetNow_20 (by decide) ?_
    refine sp_icmp_eq (tgt := 29) dX11_wetNow_21 (by decide) (fun hc4 => ?_) (fun hc4 => ?_)
    · have h := (if_pos hc4).symm.trans h
      refine sp_bipush (v := (-3)) dX11_wetNow_29 (by decide) ?_
      cases h
      exact sp_iret dX11_wetNow_31 (ty := .int) rfl rfl (fun _ => hQ)
    · have h := (if_neg hc4).symm.trans h
      refine sp_iload_n dX11_wetNow_24 rfl rfl ?_
      refine sp_iconst (v := 3) dX11_wetNow_25 (by decide) ?_
      refine sp_icmp_ne (tgt := 32) dX11_wetNow_26 (by decide) (fun hc5 => ?_) (fun hc5 => ?_)
      · have h := (if_neg hc5).symm.trans h
        refine sp_aload_n dX11_wetNow_32 rfl rfl ?_
        refine sp_iconst (v := 1) dX11_wetNow_33 (by decide) ?_
        obtain ⟨M6, hM6, h⟩ := Option.bind_eq_some_iff.mp h
        refine sp_cV (M1 := M6) (r := none) (o := 103) (st := []) (c := 10) (RX11, TX11, 56) [.int 1] [.int 1, .ref 103] [] dX11_wetNow_34 okX11_remember tw_1683 tw_1685 tw_70 (by decide) (by decide) rfl (Nat.le_of_ble_eq_true rfl) rfl rfl rfl rfl (wsI_103 hs) (fun Q hQ => tX11_remember hG hM6 hQ) ?_
        refine sp_aload_n dX11_wetNow_37 rfl rfl ?_
        refine sp_use (fun ho => ?_)
        have hs := hG.1 _ ho
        refine sp_getR (RX11, TX11, 56) dX11_wetNow_38 clX11 (j := 3) (by decide) tw_1218 (wsI_103 hs) (Or.inr ⟨_, rfl⟩) (wsP_103_3 hs) ?_
        refine sp_bipush (v := 26) dX11_wetNow_41 (by decide) ?_
        refine sp_iload_n dX11_wetNow_43 rfl rfl ?_
        refine sp_iadd dX11_wetNow_44 ?_
        refine sp_iconst (v := 1) dX11_wetNow_45 (by decide) ?_
        obtain ⟨j7, hj7, h⟩ := Option.bind_eq_some_iff.mp h
        obtain ⟨M8, hM8, h⟩ := sp_do_e h
        refine sp_iast2 (j := j7) hG dX11_wetNow_46 (wsA_105 hs) (wsN_105 hs) hj7 hM8 ?_
        refine sp_iload_n dX11_wetNow_47 rfl rfl ?_
        cases h
        exact sp_iret dX11_wetNow_48 (ty := .int) rfl rfl (fun _ => hQ)
      · have h := (if_pos hc5).symm.trans h
        refine sp_bipush (v := (-3)) dX11_wetNow_29 (by decide) ?_
        cases h
        exact sp_iret dX11_wetNow_31 (ty := .int) rfl rfl (fun _ => hQ)
  · have h := (if_pos hc1).symm.trans h
    refine sp_iconst (v := (-1)) dX11_wetNow_7 (by decide) ?_
    cases h
    exact sp_iret dX11_wetNow_8 (ty := .int) rfl rfl (fun _ => hQ)
def fX11_wet (F : Nat) (M : sp_Mem) (a1 : Int32) : Option (Int32 × sp_Mem) :=
  sp_do (sp_setI M 103 0 0) fun M1 => (fX11_wetNow F M1 a1).bind fun x2 => (fX11_tell x2.2 x2.1).bind fun x3 => some (x3.1, x3.2)
set_option maxRecDepth 100000 in
set_option maxHeartbeats 4000000 in
theorem tX11_wet {g : sp_G} {Ω : sp_Mem → Prop} {Q : sp_Qt} {F : Nat} {p : (Int32 × sp_Mem)} (hG : sp_Ok Ω) {M : sp_Mem} {a1 : Int32} (h : fX11_wet F M a1 = some p) (hQ : Q (some (.int p.1)) p.2) : sp_Mt g Ω mX11_wet 0 0 [.ref 103, .int a1] M Q := by
  unfold fX11_wet at h
  refine sp_Mt.of [some (.ref 103), some (.int a1)] (by decide) (by simp [sp_ent, Value.category]) rfl ?_
  refine sp_aload_n dX11_wet_0 rfl rfl ?_
  refine sp_iconst (v := 0) dX11_wet_1 (by decide) ?_
  refine sp_use (fun ho => ?_)
  have hs := hG.1 _ ho
  obtain ⟨M1, hM1, h⟩ := sp_do_e h
  refine sp_putI2 (RX11, TX11, 56) hG dX11_wet_2 clX11 (j := 0) (by decide) tw_1215 rfl (Or.inl rfl) (wsI_103 hs) hM1 ?_
  refine sp_aload_n dX11_wet_5 rfl rfl ?_
  refine sp_aload_n dX11_wet_6 rfl rfl ?_
  refine sp_iload_n dX11_wet_7 rfl rfl ?_
  refine sp_use (fun ho => ?_)
  have hs := hG.1 _ ho
  obtain ⟨x2, hx2, h⟩ := Option.bind_eq_some_iff.mp h
  refine sp_cV (M1 := x2.2) (r := some (.int x2.1)) (o := 103) (st := [.ref 103]) (c := 10) (RX11, TX11, 56) [.int a1] [.int a1, .ref 103, .ref 103] [.int x2.1, .ref 103] dX11_wet_8 okX11_wetNow tw_1703 tw_1705 tw_74 (by decide) (by decide) rfl (Nat.le_of_ble_eq_true rfl) rfl rfl rfl rfl (wsI_103 hs) (fun Q hQ => tX11_wetNow hG hx2 hQ) ?_
  refine sp_use (fun ho => ?_)
  have hs := hG.1 _ ho
  obtain ⟨x3, hx3, h⟩ := Option.bind_eq_some_iff.mp h
  refine sp_cV (M1 := x3.2) (r := some (.int x3.1)) (o := 103) (st := []) (c := 10) (RX11, TX11, 56) [.int x2.1] [.int x2.1, .ref 103] [.int x3.1] dX11_wet_11 okX11_tell tw_1388 tw_1390 tw_27 (by decide) (by decide) rfl (Nat.le_of_ble_eq_true rfl) rfl rfl rfl rfl (wsI_103 hs) (fun Q hQ => tX11_tell hG hx3 hQ) ?_
  cases h
  exact sp_iret dX11_wet_14 (ty := .int) rfl rfl (fun _ => hQ)
def fX11_canWalk (M0 : sp_Mem) (a1 : Int32) (a2 : Int32) : Option Int32 :=
  (sp_ix 5480 (21 + a1)).bind fun j1 => (fX11_nextTo (sp_I M0 105 j1) a2).bind fun v2 => if v2 = (-1) then (some 0) else ((sp_ix 5480 (26 + v2)).bind fun j4 => some (if (sp_I M0 105 j4) = 3 then 0 else 1))
set_option maxRecDepth 100000 in
set_option maxHeartbeats 4000000 in
theorem tX11_canWalk {g : sp_G} {Ω : sp_Mem → Prop} {Q : sp_Qt} {M0 : sp_Mem} {p : Int32} (hG : sp_Ok Ω) {a1 : Int32} {a2 : Int32} (h : fX11_canWalk M0 a1 a2 = some p) (hQ : Q (some (.int p)) M0) : sp_Mt g Ω mX11_canWalk 0 0 [.ref 103, .int a1, .int a2] M0 Q := by
  unfold fX11_canWalk at h
  refine sp_Mt.of [some (.ref 103), some (.int a1), some (.int a2), none] (by decide) (by simp [sp_ent, Value.category]) rfl ?_
  refine sp_aload_n dX11_canWalk_0 rfl rfl ?_
  refine sp_use (fun ho => ?_)
  have hs := hG.1 _ ho
  refine sp_getR (RX11, TX11, 56) dX11_canWalk_1 clX11 (j := 3) (by decide) tw_1218 (wsI_103 hs) (Or.inr ⟨_, rfl⟩) (wsP_103_3 hs) ?_
  refine sp_bipush (v := 21) dX11_canWalk_4 (by decide) ?_
  refine sp_iload_n dX11_canWalk_6 rfl rfl ?_
  refine sp_iadd dX11_canWalk_7 ?_
  obtain ⟨j1, hj1, h⟩ := Option.bind_eq_some_iff.mp h
  refine sp_iald2 (j := j1) dX11_canWalk_8 (wsA_105 hs) (wsN_105 hs) hj1 ?_
  refine sp_iload_n dX11_canWalk_9 rfl rfl ?_
  obtain ⟨v2, hv2, h⟩ := Option.bind_eq_some_iff.mp h
  refine sp_cS (M1 := M0) (r := some (.int v2)) (st := []) [.int (sp_I M0 105 j1), .int a2] [.int a2, .int (sp_I M0 105 j1)] [.int v2] dX11_canWalk_10 okX11_nextTo tw_1720 tw_1721 (by decide) (by decide) rfl (Nat.le_of_ble_eq_true rfl) rfl rfl (fun Q hQ => tX11_nextTo hG hv2 hQ) ?_
  refine sp_istore_n [some (.ref 103), some (.int a1), some (.int a2), some (.int v2)] dX11_canWalk_13 rfl (by decide) rfl ?_
  refine sp_iload_n dX11_canWalk_14 rfl rfl ?_
  refine sp_iconst (v := (-1)) dX11_canWalk_15 (by decide) ?_
  refine sp_icmp_eq (tgt := 36) dX11_canWalk_16 (by decide) (fun hc3 => ?_) (fun hc3 => ?_)
  · have h := (if_pos hc3).symm.trans h
    refine sp_iconst (v := 0) dX11_canWalk_36 (by decide) ?_
    cases h
    exact sp_iret dX11_canWalk_37 (ty := .boolean) rfl (sp_nz (Or.inl rfl)) (fun _ => hQ)
  · have h := (if_neg hc3).symm.trans h
    refine sp_aload_n dX11_canWalk_19 rfl rfl ?_
    refine sp_getR (RX11, TX11, 56) dX11_canWalk_20 clX11 (j := 3) (by decide) tw_1218 (wsI_103 hs) (Or.inr ⟨_, rfl⟩) (wsP_103_3 hs) ?_
    refine sp_bipush (v := 26) dX11_canWalk_23 (by decide) ?_
    refine sp_iload_n dX11_canWalk_25 rfl rfl ?_
    refine sp_iadd dX11_canWalk_26 ?_
    obtain ⟨j4, hj4, h⟩ := Option.bind_eq_some_iff.mp h
    refine sp_iald2 (j := j4) dX11_canWalk_27 (wsA_105 hs) (wsN_105 hs) hj4 ?_
    refine sp_iconst (v := 3) dX11_canWalk_28 (by decide) ?_
    suffices hj : sp_Wp g Ω mX11_canWalk 0 0 37 [none, none, none, none] [.int (if (sp_I M0 105 j4) = 3 then 0 else 1)] M0 Q by
      refine sp_icmp_eq (tgt := 36) dX11_canWalk_29 (by decide) (fun hc5 => ?_) (fun hc5 => ?_)
      · refine sp_iconst (v := 0) dX11_canWalk_36 (by decide) ?_
        refine sp_weak [false, false, false, false] [none, none, none, none] rfl ?_
        simp only [if_pos hc5] at hj
        exact hj
      · refine sp_iconst (v := 1) dX11_canWalk_32 (by decide) ?_
        refine sp_goto (tgt := 37) dX11_canWalk_33 (by decide) ?_
        refine sp_weak [false, false, false, false] [none, none, none, none] rfl ?_
        simp only [if_neg hc5] at hj
        exact hj
    cases h
    exact sp_iret dX11_canWalk_37 (ty := .boolean) rfl (sp_nz (by repeat (first | exact Or.inl rfl | exact Or.inr rfl | split))) (fun _ => hQ)
def fX11_walkNow (F : Nat) (M : sp_Mem) (a1 : Int32) (a2 : Int32) : Option (Int32 × sp_Mem) :=
  if (fX11_in (Int32.toInt64 a2) 1 4) = 0 then (some ((-1), M)) else ((fX11_isPerson M a1).bind fun v2 => if v2 = 0 then (some ((-2), M)) else ((fX11_canWalk M a1 a2).bind fun v4 => if v4 = 0 then (some ((-3), M)) else ((fX11_remember F M 2).bind fun M6 => (sp_ix 5480 (21 + a1)).bind fun j7 => (fX11_nextTo (sp_I M6 105 j7) a2).bind fun v8 => (sp_ix 5480 (21 + a1)).bind fun j9 => sp_do (sp_setI M6 105 j9 v8) fun M10 => (sp_ix 5480 (21 + a1)).bind fun j11 => some ((sp_I M10 105 j11), M10))))
set_option maxRecDepth 100000 in
set_option maxHeartbeats 4000000 in
theorem tX11_walkNow {g : sp_G} {Ω : sp_Mem → Prop} {Q : sp_Qt} {F : Nat} {p : (Int32 × sp_Mem)} (hG : sp_Ok Ω) {M : sp_Mem} {a1 : Int32} {a2 : Int32} (h : fX11_walkNow F M a1 a2 = some p) (hQ : Q (some (.int p.1)) p.2) : sp_Mt g Ω mX11_walkNow 0 0 [.ref 103, .int a1, .int a2] M Q := by
  unfold fX11_walkNow at h
  refine sp_Mt.of [some (.ref 103), some (.int a1), some (.int a2)] (by decide) (by simp [sp_ent, Value.category]) rfl ?_
  refine sp_iload_n dX11_walkNow_0 rfl rfl ?_
  refine sp_i2l dX11_walkNow_1 ?_
  refine sp_lconst (v := 1) dX11_walkNow_2 (by decide) ?_
  refine sp_ldc2 (v := 4) dX11_walkNow_3 tw_1715 ?_
  refine sp_use (fun ho => ?_)
  have hs := hG.1 _ ho
  refine sp_cS (M1 := M) (r := some (.int (fX11_in (Int32.toInt64 a2) 1 4))) (st := []) [.long (Int32.toInt64 a2), .long 1, .long 4] [.long 4, .long 1, .long (Int32.toInt64 a2)] [.int (fX11_in (Int32.toInt64 a2) 1 4)] dX11_walkNow_6 okX11_in tw_1400 tw_1401 (by decide) (by decide) rfl (Nat.le_of_ble_eq_true rfl) rfl rfl (fun Q hQ => tX11_in hG rfl hQ) ?_
  refine sp_if_ne (tgt := 14) dX11_walkNow_9 (by decide) (fun hc1 => ?_) (fun hc1 => ?_)
  · have h := (if_neg hc1).symm.trans h
    refine sp_aload_n dX11_walkNow_14 rfl rfl ?_
    refine sp_iload_n dX11_walkNow_15 rfl rfl ?_
    obtain ⟨v2, hv2, h⟩ := Option.bind_eq_some_iff.mp h
    refine sp_cV (M1 := M) (r := some (.int v2)) (o := 103) (st := []) (c := 10) (RX11, TX11, 56) [.int a1] [.int a1, .ref 103] [.int v2] dX11_walkNow_16 okX11_isPerson tw_1482 tw_1484 tw_39 (by decide) (by decide) rfl (Nat.le_of_ble_eq_true rfl) rfl rfl rfl rfl (wsI_103 hs) (fun Q hQ => tX11_isPerson hG hv2 hQ) ?_
    refine sp_if_ne (tgt := 25) dX11_walkNow_19 (by decide) (fun hc3 => ?_) (fun hc3 => ?_)
    · have h := (if_neg hc3).symm.trans h
      refine sp_aload_n dX11_walkNow_25 rfl rfl ?_
      refine sp_iload_n dX11_walkNow_26 rfl rfl ?_
      refine sp_iload_n dX11_walkNow_27 rfl rfl ?_
      obtain ⟨v4, hv4, h⟩ := Option.bind_eq_some_iff.mp h
      refine sp_cV (M1 := M) (r := some (.int v4)) (o := 103) (st := []) (c := 10) (RX11, TX11, 56) [.int a1, .int a2] [.int a2, .int a1, .ref 103] [.int v4] dX11_walkNow_28 okX11_canWalk tw_1716 tw_1718 tw_76 (by decide) (by decide) rfl (Nat.le_of_ble_eq_true rfl) rfl rfl rfl rfl (wsI_103 hs) (fun Q hQ => tX11_canWalk hG hv4 hQ) ?_
      refine sp_if_ne (tgt := 37) dX11_walkNow_31 (by decide) (fun hc5 => ?_) (fun hc5 => ?_)
      · have h := (if_neg hc5).symm.trans h
        refine sp_aload_n dX11_walkNow_37 rfl rfl ?_
        refine sp_iconst (v := 2) dX11_walkNow_38 (by decide) ?_
        obtain ⟨M6, hM6, h⟩ := Option.bind_eq_some_iff.mp h
        refine sp_cV (M1 := M6) (r := none) (o := 103) (st := []) (c := 10) (RX11, TX11, 56) [.int 2] [.int 2, .ref 103] [] dX11_walkNow_39 okX11_remember tw_1683 tw_1685 tw_70 (by decide) (by decide) rfl (Nat.le_of_ble_eq_true rfl) rfl rfl rfl rfl (wsI_103 hs) (fun Q hQ => tX11_remember hG hM6 hQ) ?_
        refine sp_aload_n dX11_walkNow_42 rfl rfl ?_
        refine sp_use (fun ho => ?_)
        have hs := hG.1 _ ho
        refine sp_getR (RX11, TX11, 56) dX11_walkNow_43 clX11 (j := 3) (by decide) tw_1218 (wsI_103 hs) (Or.inr ⟨_, rfl⟩) (wsP_103_3 hs) ?_
        refine sp_bipush (v := 21) dX11_walkNow_46 (by decide) ?_
        refine sp_iload_n dX11_walkNow_48 rfl rfl ?_
        refine sp_iadd dX11_walkNow_49 ?_
        refine sp_aload_n dX11_walkNow_50 rfl rfl ?_
        refine sp_getR (RX11, TX11, 56) dX11_walkNow_51 clX11 (j := 3) (by decide) tw_1218 (wsI_103 hs) (Or.inr ⟨_, rfl⟩) (wsP_103_3 hs) ?_
        refine sp_bipush (v := 21) dX11_walkNow_54 (by decide) ?_
        refine sp_iload_n dX11_walkNow_56 rfl rfl ?_
        refine sp_iadd dX11_walkNow_57 ?_
        obtain ⟨j7, hj7, h⟩ := Option.bind_eq_some_iff.mp h
        refine sp_iald2 (j := j7) dX11_walkNow_58 (wsA_105 hs) (wsN_105 hs) hj7 ?_
        refine sp_iload_n dX11_walkNow_59 rfl rfl ?_
        obtain ⟨v8, hv8, h⟩ := Option.bind_eq_some_iff.mp h
        refine sp_cS (M1 := M6) (r := some (.int v8)) (st := [.int (21 + a1), .ref 105]) [.int (sp_I M6 105 j7), .int a2] [.int a2, .int (sp_I M6 105 j7), .int (21 + a1), .ref 105] [.int v8, .int (21 + a1), .ref 105] dX11_walkNow_60 okX11_nextTo tw_1720 tw_1721 (by decide) (by decide) rfl (Nat.le_of_ble_eq_true rfl) rfl rfl (fun Q hQ => tX11_nextTo hG hv8 hQ) ?_
        obtain ⟨j9, hj9, h⟩ := Option.bind_eq_some_iff.mp h
        obtain ⟨M10, hM10, h⟩ := sp_do_e h
        refine sp_iast2 (j := j9) hG dX11_walkNow_63 (wsA_105 hs) (wsN_105 hs) hj9 hM10 ?_
        refine sp_aload_n dX11_walkNow_64 rfl rfl ?_
        refine sp_use (fun ho => ?_)
        have hs := hG.1 _ ho
        refine sp_getR (RX11, TX11, 56) dX11_walkNow_65 clX11 (j := 3) (by decide) tw_1218 (wsI_103 hs) (Or.inr ⟨_, rfl⟩) (wsP_103_3 hs) ?_
        refine sp_bipush (v := 21) dX11_walkNow_68 (by decide) ?_
        refine sp_iload_n dX11_walkNow_70 rfl rfl ?_
        refine sp_iadd dX11_walkNow_71 ?_
        obtain ⟨j11, hj11, h⟩ := Option.bind_eq_some_iff.mp h
        refine sp_iald2 (j := j11) dX11_walkNow_72 (wsA_105 hs) (wsN_105 hs) hj11 ?_
        cases h
        exact sp_iret dX11_walkNow_73 (ty := .int) rfl rfl (fun _ => hQ)
      · have h := (if_pos hc5).symm.trans h
        refine sp_bipush (v := (-3)) dX11_walkNow_34 (by decide) ?_
        cases h
        exact sp_iret dX11_walkNow_36 (ty := .int) rfl rfl (fun _ => hQ)
    · have h := (if_pos hc3).symm.trans h
      refine sp_bipush (v := (-2)) dX11_walkNow_22 (by decide) ?_
      cases h
      exact sp_iret dX11_walkNow_24 (ty := .int) rfl rfl (fun _ => hQ)
  · have h := (if_pos hc1).symm.trans h
    refine sp_iconst (v := (-1)) dX11_walkNow_12 (by decide) ?_
    cases h
    exact sp_iret dX11_walkNow_13 (ty := .int) rfl rfl (fun _ => hQ)
def fX11_walk (F : Nat) (M : sp_Mem) (a1 : Int32) (a2 : Int32) : Option (Int32 × sp_Mem) :=
  sp_do (sp_setI M 103 0 0) fun M1 => (fX11_walkNow F M1 a1 a2).bind fun x2 => (fX11_tell x2.2 x2.1).bind fun x3 => some (x3.1, x3.2)
set_option maxRecDepth 100000 in
set_option maxHeartbeats 4000000 in
theorem tX11_walk {g : sp_G} {Ω : sp_Mem → Prop} {Q : sp_Qt} {F : Nat} {p : (Int32 × sp_Mem)} (hG : sp_Ok Ω) {M : sp_Mem} {a1 : Int32} {a2 : Int32} (h : fX11_walk F M a1 a2 = some p) (hQ : Q (some (.int p.1)) p.2) : sp_Mt g Ω mX11_walk 0 0 [.ref 103, .int a1, .int a2] M Q := by
  unfold fX11_walk at h
  refine sp_Mt.of [some (.ref 103), some (.int a1), some (.int a2)] (by decide) (by simp [sp_ent, Value.category]) rfl ?_
  refine sp_aload_n dX11_walk_0 rfl rfl ?_
  refine sp_iconst (v := 0) dX11_walk_1 (by decide) ?_
  refine sp_use (fun ho => ?_)
  have hs := hG.1 _ ho
  obtain ⟨M1, hM1, h⟩ := sp_do_e h
  refine sp_putI2 (RX11, TX11, 56) hG dX11_walk_2 clX11 (j := 0) (by decide) tw_1215 rfl (Or.inl rfl) (wsI_103 hs) hM1 ?_
  refine sp_aload_n dX11_walk_5 rfl rfl ?_
  refine sp_aload_n dX11_walk_6 rfl rfl ?_
  refine sp_iload_n dX11_walk_7 rfl rfl ?_
  refine sp_iload_n dX11_walk_8 rfl rfl ?_
  refine sp_use (fun ho => ?_)
  have hs := hG.1 _ ho
  obtain ⟨x2, hx2, h⟩ := Option.bind_eq_some_iff.mp h
  refine sp_cV (M1 := x2.2) (r := some (.int x2.1)) (o := 103) (st := [.ref 103]) (c := 10) (RX11, TX11, 56) [.int a1, .int a2] [.int a2, .int a1, .ref 103, .ref 103] [.int x2.1, .ref 103] dX11_walk_9 okX11_walkNow tw_1711 tw_1713 tw_75 (by decide) (by decide) rfl (Nat.le_of_ble_eq_true rfl) rfl rfl rfl rfl (wsI_103 hs) (fun Q hQ => tX11_walkNow hG hx2 hQ) ?_
  refine sp_use (fun ho => ?_)
  have hs := hG.1 _ ho
  obtain ⟨x3, hx3, h⟩ := Option.bind_eq_some_iff.mp h
  refine sp_cV (M1 := x3.2) (r := some (.int x3.1)) (o := 103) (st := []) (c := 10) (RX11, TX11, 56) [.int x2.1] [.int x2.1, .ref 103] [.int x3.1] dX11_walk_12 okX11_tell tw_1388 tw_1390 tw_27 (by decide) (by decide) rfl (Nat.le_of_ble_eq_true rfl) rfl rfl rfl rfl (wsI_103 hs) (fun Q hQ => tX11_tell hG hx3 hQ) ?_
  cases h
  exact sp_iret dX11_walk_15 (ty := .int) rfl rfl (fun _ => hQ)
def fX11_passIt_j64 (F : Nat) (kb : Int32 → sp_Mem → Option sp_Mem) (kx : sp_Mem → Option sp_Mem) (a1 : Int32) (s0 : Int32) (M : sp_Mem) : Option sp_Mem :=
  (sp_ix 5480 (9 + a1)).bind fun j10 => (sp_ix 6 s0).bind fun j11 => sp_do (sp_setI M 124 j11 (sp_I M 105 j10)) fun M12 => kb (a1 + 1) M12
def fX11_passIt_l2 (F : Nat) (kx : sp_Mem → Option sp_Mem) : Nat → Int32 → sp_Mem → Option sp_Mem
  | 0, _, _ => none
  | n + 1, a1, M =>
  if (sp_I M 105 0) ≤ a1 then (kx M) else ((sp_ix 6 a1).bind fun j2 => sp_do (sp_setI M 124 j2 (-1)) fun M3 => (fX11_isLoose M3 a1).bind fun v4 => if v4 = 0 then ((fX11_passIt_l2 F kx n) (a1 + 1) M3) else ((sp_ix 5480 (9 + a1)).bind fun j6 => (fX11_goesOf F M3 a1).bind fun x7 => (fX11_nextTo (sp_I M3 105 j6) x7.1).bind fun v8 => if v8 = (-1) then (fX11_passIt_j64 F (fX11_passIt_l2 F kx n) kx a1 a1 x7.2) else ((fX11_isBarred F x7.2 a1 v8).bind fun x13 => if x13.1 = 0 then ((sp_ix 6 a1).bind fun j15 => sp_do (sp_setI x13.2 124 j15 v8) fun M16 => (fX11_passIt_l2 F kx n) (a1 + 1) M16) else (fX11_passIt_j64 F (fX11_passIt_l2 F kx n) kx a1 a1 x13.2))))
def fX11_passIt_l86 (F : Nat) (kx : sp_Mem → Option sp_Mem) : Nat → Int32 → sp_Mem → Option sp_Mem
  | 0, _, _ => none
  | n + 1, a1, M =>
  if (sp_I M 105 0) ≤ a1 then (kx M) else ((sp_ix 6 a1).bind fun j19 => (sp_ix 5480 (9 + a1)).bind fun j20 => sp_do (sp_setI M 105 j20 (sp_I M 124 j19)) fun M21 => (fX11_passIt_l86 F kx n) (a1 + 1) M21)
def fX11_passIt_l119 (F : Nat) (kx : sp_Mem → Option sp_Mem) : Nat → Int32 → sp_Mem → Option sp_Mem
  | 0, _, _ => none
  | n + 1, a1, M =>
  if (sp_I M 105 0) ≤ a1 then (kx M) else ((fX11_isLoose M a1).bind fun v24 => if v24 = 0 then ((sp_ix 6 a1).bind fun j26 => sp_do (sp_setI M 125 j26 0) fun M27 => (fX11_passIt_l119 F kx n) (a1 + 1) M27) else ((fX11_burnsOf F M a1).bind fun x28 => (sp_ix 6 a1).bind fun j29 => sp_do (sp_setI x28.2 125 j29 x28.1) fun M30 => (fX11_passIt_l119 F kx n) (a1 + 1) M30))
def fX11_passIt_l160 (F : Nat) (kx : sp_Mem → Option sp_Mem) : Nat → Int32 → sp_Mem → Option sp_Mem
  | 0, _, _ => none
  | n + 1, a1, M =>
  if (sp_I M 105 0) ≤ a1 then (kx M) else ((sp_ix 5480 (15 + a1)).bind fun j33 => (sp_ix 6 a1).bind fun j34 => (sp_ix 5480 (15 + a1)).bind fun j35 => sp_do (sp_setI M 105 j35 (fX11_within (Int32.toInt64 ((sp_I M 105 j33) + (sp_I M 125 j34))) 0 9)) fun M36 => (sp_ix 5480 (15 + a1)).bind fun j37 => if (sp_I M36 105 j37) = 0 then ((fX11_endSpark M36 a1).bind fun M39 => (fX11_passIt_l160 F kx n) (a1 + 1) M39) else ((fX11_passIt_l160 F kx n) (a1 + 1) M36))
def fX11_passIt (F : Nat) (M : sp_Mem) : Option sp_Mem :=
  fX11_passIt_l2 F (fun M17 => fX11_passIt_l86 F (fun M22 => fX11_passIt_l119 F (fun M31 => fX11_passIt_l160 F (fun M40 => sp_do (sp_setI M40 105 5 ((sp_I M40 105 5) + 1)) fun M41 => some M41) F 0 M31) F 0 M22) F 0 M17) F 0 M
set_option maxRecDepth 100000 in
set_option maxHeartbeats 4000000 in
theorem tX11_passIt_j64 {g : sp_G} {Ω : sp_Mem → Prop} {Q : sp_Qt} {F : Nat} {p : sp_Mem} (hG : sp_Ok Ω)  {kb : Int32 → sp_Mem → Option sp_Mem} {kx : sp_Mem → Option sp_Mem} (hQ : Q none p) (hb : ∀ (a1 : Int32) (M : sp_Mem), kb a1 M = some p → sp_Wp g Ω mX11_passIt 0 0 2 [some (.ref 103), some (.int a1), none] [] M Q) (hx : ∀  (M : sp_Mem), kx M = some p → sp_Wp g Ω mX11_passIt 0 0 84 [some (.ref 103), none, none] [] M Q) (a1 : Int32) (s0 : Int32) (M : sp_Mem) (h : fX11_passIt_j64 F kb kx a1 s0 M = some p) : sp_Wp g Ω mX11_passIt 0 0 64 [some (.ref 103), some (.int a1), none] [.int s0, .ref 124] M Q := by
  unfold fX11_passIt_j64 at h
  refine sp_aload_n dX11_passIt_64 rfl rfl ?_
  refine sp_use (fun ho => ?_)
  have hs := hG.1 _ ho
  refine sp_getR (RX11, TX11, 56) dX11_passIt_65 clX11 (j := 3) (by decide) tw_1218 (wsI_103 hs) (Or.inr ⟨_, rfl⟩) (wsP_103_3 hs) ?_
  refine sp_bipush (v := 9) dX11_passIt_68 (by decide) ?_
  refine sp_iload_n dX11_passIt_70 rfl rfl ?_
  refine sp_iadd dX11_passIt_71 ?_
  obtain ⟨j10, hj10, h⟩ := Option.bind_eq_some_iff.mp h
  refine sp_iald2 (j := j10) dX11_passIt_72 (wsA_105 hs) (wsN_105 hs) hj10 ?_
  refine sp_goto (tgt := 77) dX11_passIt_73 (by decide) ?_
  obtain ⟨j11, hj11, h⟩ := Option.bind_eq_some_iff.mp h
  obtain ⟨M12, hM12, h⟩ := sp_do_e h
  refine sp_iast2 (j := j11) hG dX11_passIt_77 (wsA_124 hs) (wsN_124 hs) hj11 hM12 ?_
  refine sp_iinc (v := (a1 + 1)) [some (.ref 103), some (.int (a1 + 1)), none] dX11_passIt_78 rfl rfl (by decide) rfl ?_
  refine sp_goto (tgt := 2) dX11_passIt_81 (by decide) ?_
  refine sp_weak [true, true, false] [some (.ref 103), some (.int (a1 + 1)), none] rfl ?_
  exact hb _ _ h
set_option maxRecDepth 100000 in
set_option maxHeartbeats 4000000 in
theorem tX11_passIt_l2 {g : sp_G} {Ω : sp_Mem → Prop} {Q : sp_Qt} {F : Nat} {p : sp_Mem} (hG : sp_Ok Ω)  {kx : sp_Mem → Option sp_Mem} (hQ : Q none p) (hx : ∀  (M : sp_Mem), kx M = some p → sp_Wp g Ω mX11_passIt 0 0 84 [some (.ref 103), none, none] [] M Q) : ∀ (n : Nat) (a1 : Int32) (M : sp_Mem), fX11_passIt_l2 F kx n a1 M = some p → sp_Wp g Ω mX11_passIt 0 0 2 [some (.ref 103), some (.int a1), none] [] M Q := by
  intro n
  induction n with
  | zero =>
    intro a1 M h
    rw [fX11_passIt_l2] at h
    cases h
  | succ n ih =>
    intro a1 M h
    rw [fX11_passIt_l2] at h
    refine sp_iload_n dX11_passIt_2 rfl rfl ?_
    refine sp_aload_n dX11_passIt_3 rfl rfl ?_
    refine sp_use (fun ho => ?_)
    have hs := hG.1 _ ho
    refine sp_getR (RX11, TX11, 56) dX11_passIt_4 clX11 (j := 3) (by decide) tw_1218 (wsI_103 hs) (Or.inr ⟨_, rfl⟩) (wsP_103_3 hs) ?_
    refine sp_iconst (v := 0) dX11_passIt_7 (by decide) ?_
    refine sp_iald2 (j := 0) dX11_passIt_8 (wsA_105 hs) (wsN_105 hs) rfl ?_
    refine sp_icmp_ge (tgt := 84) dX11_passIt_9 (by decide) (fun hc1 => ?_) (fun hc1 => ?_)
    · have h := (if_pos hc1).symm.trans h
      refine sp_weak [true, false, false] [some (.ref 103), none, none] rfl ?_
      exact hx _ h
    · have h := (if_neg hc1).symm.trans h
      refine sp_aload_n dX11_passIt_12 rfl rfl ?_
      refine sp_getR (RX11, TX11, 56) dX11_passIt_13 clX11 (j := 41) (by decide) tw_1256 (wsI_103 hs) (Or.inr ⟨_, rfl⟩) (wsP_103_41 hs) ?_
      refine sp_iload_n dX11_passIt_16 rfl rfl ?_
      refine sp_iconst (v := (-1)) dX11_passIt_17 (by decide) ?_
      obtain ⟨j2, hj2, h⟩ := Option.bind_eq_some_iff.mp h
      obtain ⟨M3, hM3, h⟩ := sp_do_e h
      refine sp_iast2 (j := j2) hG dX11_passIt_18 (wsA_124 hs) (wsN_124 hs) hj2 hM3 ?_
      refine sp_aload_n dX11_passIt_19 rfl rfl ?_
      refine sp_iload_n dX11_passIt_20 rfl rfl ?_
      refine sp_use (fun ho => ?_)
      have hs := hG.1 _ ho
      obtain ⟨v4, hv4, h⟩ := Option.bind_eq_some_iff.mp h
      refine sp_cV (M1 := M3) (r := some (.int v4)) (o := 103) (st := []) (c := 10) (RX11, TX11, 56) [.int a1] [.int a1, .ref 103] [.int v4] dX11_passIt_21 okX11_isLoose tw_1428 tw_1430 tw_31 (by decide) (by decide) rfl (Nat.le_of_ble_eq_true rfl) rfl rfl rfl rfl (wsI_103 hs) (fun Q hQ => tX11_isLoose hG hv4 hQ) ?_
      refine sp_if_eq (tgt := 78) dX11_passIt_24 (by decide) (fun hc5 => ?_) (fun hc5 => ?_)
      · have h := (if_pos hc5).symm.trans h
        refine sp_iinc (v := (a1 + 1)) [some (.ref 103), some (.int (a1 + 1)), none] dX11_passIt_78 rfl rfl (by decide) rfl ?_
        refine sp_goto (tgt := 2) dX11_passIt_81 (by decide) ?_
        refine sp_weak [true, true, false] [some (.ref 103), some (.int (a1 + 1)), none] rfl ?_
        exact ih _ _ h
      · have h := (if_neg hc5).symm.trans h
        refine sp_aload_n dX11_passIt_27 rfl rfl ?_
        refine sp_getR (RX11, TX11, 56) dX11_passIt_28 clX11 (j := 3) (by decide) tw_1218 (wsI_103 hs) (Or.inr ⟨_, rfl⟩) (wsP_103_3 hs) ?_
        refine sp_bipush (v := 9) dX11_passIt_31 (by decide) ?_
        refine sp_iload_n dX11_passIt_33 rfl rfl ?_
        refine sp_iadd dX11_passIt_34 ?_
        obtain ⟨j6, hj6, h⟩ := Option.bind_eq_some_iff.mp h
        refine sp_iald2 (j := j6) dX11_passIt_35 (wsA_105 hs) (wsN_105 hs) hj6 ?_
        refine sp_aload_n dX11_passIt_36 rfl rfl ?_
        refine sp_iload_n dX11_passIt_37 rfl rfl ?_
        obtain ⟨x7, hx7, h⟩ := Option.bind_eq_some_iff.mp h
        refine sp_cV (M1 := x7.2) (r := some (.int x7.1)) (o := 103) (st := [.int (sp_I M3 105 j6)]) (c := 10) (RX11, TX11, 56) [.int a1] [.int a1, .ref 103, .int (sp_I M3 105 j6)] [.int x7.1, .int (sp_I M3 105 j6)] dX11_passIt_38 okX11_goesOf tw_1432 tw_1434 tw_32 (by decide) (by decide) rfl (Nat.le_of_ble_eq_true rfl) rfl rfl rfl rfl (wsI_103 hs) (fun Q hQ => tX11_goesOf hG hx7 hQ) ?_
        refine sp_use (fun ho => ?_)
        have hs := hG.1 _ ho
        obtain ⟨v8, hv8, h⟩ := Option.bind_eq_some_iff.mp h
        refine sp_cS (M1 := x7.2) (r := some (.int v8)) (st := []) [.int (sp_I M3 105 j6), .int x7.1] [.int x7.1, .int (sp_I M3 105 j6)] [.int v8] dX11_passIt_41 okX11_nextTo tw_1720 tw_1721 (by decide) (by decide) rfl (Nat.le_of_ble_eq_true rfl) rfl rfl (fun Q hQ => tX11_nextTo hG hv8 hQ) ?_
        refine sp_istore_n [some (.ref 103), some (.int a1), some (.int v8)] dX11_passIt_44 rfl (by decide) rfl ?_
        refine sp_aload_n dX11_passIt_45 rfl rfl ?_
        refine sp_getR (RX11, TX11, 56) dX11_passIt_46 clX11 (j := 41) (by decide) tw_1256 (wsI_103 hs) (Or.inr ⟨_, rfl⟩) (wsP_103_41 hs) ?_
        refine sp_iload_n dX11_passIt_49 rfl rfl ?_
        refine sp_iload_n dX11_passIt_50 rfl rfl ?_
        refine sp_iconst (v := (-1)) dX11_passIt_51 (by decide) ?_
        refine sp_icmp_eq (tgt := 64) dX11_passIt_52 (by decide) (fun hc9 => ?_) (fun hc9 => ?_)
        · have h := (if_pos hc9).symm.trans h
          refine sp_weak [true, true, false] [some (.ref 103), some (.int a1), none] rfl ?_
          exact tX11_passIt_j64 hG hQ ih hx _ _ _ h
        · have h := (if_neg hc9).symm.trans h
          refine sp_aload_n dX11_passIt_55 rfl rfl ?_
          refine sp_iload_n dX11_passIt_56 rfl rfl ?_
          refine sp_iload_n dX11_passIt_57 rfl rfl ?_
          obtain ⟨x13, hx13, h⟩ := Option.bind_eq_some_iff.mp h
          refine sp_cV (M1 := x13.2) (r := some (.int x13.1)) (o := 103) (st := [.int a1, .ref 124]) (c := 10) (RX11, TX11, 56) [.int a1, .int v8] [.int v8, .int a1, .ref 103, .int a1, .ref 124] [.int x13.1, .int a1, .ref 124] dX11_passIt_58 okX11_isBarred tw_1735 tw_1737 tw_79 (by decide) (by decide) rfl (Nat.le_of_ble_eq_true rfl) rfl rfl rfl rfl (wsI_103 hs) (fun Q hQ => tX11_isBarred hG hx13 hQ) ?_
          refine sp_if_eq (tgt := 76) dX11_passIt_61 (by decide) (fun hc14 => ?_) (fun hc14 => ?_)
          · have h := (if_pos hc14).symm.trans h
            refine sp_iload_n dX11_passIt_76 rfl rfl ?_
            refine sp_use (fun ho => ?_)
            have hs := hG.1 _ ho
            obtain ⟨j15, hj15, h⟩ := Option.bind_eq_some_iff.mp h
            obtain ⟨M16, hM16, h⟩ := sp_do_e h
            refine sp_iast2 (j := j15) hG dX11_passIt_77 (wsA_124 hs) (wsN_124 hs) hj15 hM16 ?_
            refine sp_iinc (v := (a1 + 1)) [some (.ref 103), some (.int (a1 + 1)), some (.int v8)] dX11_passIt_78 rfl rfl (by decide) rfl ?_
            refine sp_goto (tgt := 2) dX11_passIt_81 (by decide) ?_
            refine sp_weak [true, true, false] [some (.ref 103), some (.int (a1 + 1)), none] rfl ?_
            exact ih _ _ h
          · have h := (if_neg hc14).symm.trans h
            refine sp_weak [true, true, false] [some (.ref 103), some (.int a1), none] rfl ?_
            exact tX11_passIt_j64 hG hQ ih hx _ _ _ h
set_option maxRecDepth 100000 in
set_option maxHeartbeats 4000000 in
theorem tX11_passIt_l86 {g : sp_G} {Ω : sp_Mem → Prop} {Q : sp_Qt} {F : Nat} {p : sp_Mem} (hG : sp_Ok Ω)  {kx : sp_Mem → Option sp_Mem} (hQ : Q none p) (hx : ∀  (M : sp_Mem), kx M = some p → sp_Wp g Ω mX11_passIt 0 0 117 [some (.ref 103), none, none] [] M Q) : ∀ (n : Nat) (a1 : Int32) (M : sp_Mem), fX11_passIt_l86 F kx n a1 M = some p → sp_Wp g Ω mX11_passIt 0 0 86 [some (.ref 103), some (.int a1), none] [] M Q := by
  intro n
  induction n with
  | zero =>
    intro a1 M h
    rw [fX11_passIt_l86] at h
    cases h
  | succ n ih =>
    intro a1 M h
    rw [fX11_passIt_l86] at h
    refine sp_iload_n dX11_passIt_86 rfl rfl ?_
    refine sp_aload_n dX11_passIt_87 rfl rfl ?_
    refine sp_use (fun ho => ?_)
    have hs := hG.1 _ ho
    refine sp_getR (RX11, TX11, 56) dX11_passIt_88 clX11 (j := 3) (by decide) tw_1218 (wsI_103 hs) (Or.inr ⟨_, rfl⟩) (wsP_103_3 hs) ?_
    refine sp_iconst (v := 0) dX11_passIt_91 (by decide) ?_
    refine sp_iald2 (j := 0) dX11_passIt_92 (wsA_105 hs) (wsN_105 hs) rfl ?_
    refine sp_icmp_ge (tgt := 117) dX11_passIt_93 (by decide) (fun hc18 => ?_) (fun hc18 => ?_)
    · have h := (if_pos hc18).symm.trans h
      refine sp_weak [true, false, false] [some (.ref 103), none, none] rfl ?_
      exact hx _ h
    · have h := (if_neg hc18).symm.trans h
      refine sp_aload_n dX11_passIt_96 rfl rfl ?_
      refine sp_getR (RX11, TX11, 56) dX11_passIt_97 clX11 (j := 3) (by decide) tw_1218 (wsI_103 hs) (Or.inr ⟨_, rfl⟩) (wsP_103_3 hs) ?_
      refine sp_bipush (v := 9) dX11_passIt_100 (by decide) ?_
      refine sp_iload_n dX11_passIt_102 rfl rfl ?_
      refine sp_iadd dX11_passIt_103 ?_
      refine sp_aload_n dX11_passIt_104 rfl rfl ?_
      refine sp_getR (RX11, TX11, 56) dX11_passIt_105 clX11 (j := 41) (by decide) tw_1256 (wsI_103 hs) (Or.inr ⟨_, rfl⟩) (wsP_103_41 hs) ?_
      refine sp_iload_n dX11_passIt_108 rfl rfl ?_
      obtain ⟨j19, hj19, h⟩ := Option.bind_eq_some_iff.mp h
      refine sp_iald2 (j := j19) dX11_passIt_109 (wsA_124 hs) (wsN_124 hs) hj19 ?_
      obtain ⟨j20, hj20, h⟩ := Option.bind_eq_some_iff.mp h
      obtain ⟨M21, hM21, h⟩ := sp_do_e h
      refine sp_iast2 (j := j20) hG dX11_passIt_110 (wsA_105 hs) (wsN_105 hs) hj20 hM21 ?_
      refine sp_iinc (v := (a1 + 1)) [some (.ref 103), some (.int (a1 + 1)), none] dX11_passIt_111 rfl rfl (by decide) rfl ?_
      refine sp_goto (tgt := 86) dX11_passIt_114 (by decide) ?_
      refine sp_weak [true, true, false] [some (.ref 103), some (.int (a1 + 1)), none] rfl ?_
      exact ih _ _ h
set_option maxRecDepth 100000 in
set_option maxHeartbeats 4000000 in
theorem tX11_passIt_l119 {g : sp_G} {Ω : sp_Mem → Prop} {Q : sp_Qt} {F : Nat} {p : sp_Mem} (hG : sp_Ok Ω)  {kx : sp_Mem → Option sp_Mem} (hQ : Q none p) (hx : ∀  (M : sp_Mem), kx M = some p → sp_Wp g Ω mX11_passIt 0 0 158 [some (.ref 103), none, none] [] M Q) : ∀ (n : Nat) (a1 : Int32) (M : sp_Mem), fX11_passIt_l119 F kx n a1 M = some p → sp_Wp g Ω mX11_passIt 0 0 119 [some (.ref 103), some (.int a1), none] [] M Q := by
  intro n
  induction n with
  | zero =>
    intro a1 M h
    rw [fX11_passIt_l119] at h
    cases h
  | succ n ih =>
    intro a1 M h
    rw [fX11_passIt_l119] at h
    refine sp_iload_n dX11_passIt_119 rfl rfl ?_
    refine sp_aload_n dX11_passIt_120 rfl rfl ?_
    refine sp_use (fun ho => ?_)
    have hs := hG.1 _ ho
    refine sp_getR (RX11, TX11, 56) dX11_passIt_121 clX11 (j := 3) (by decide) tw_1218 (wsI_103 hs) (Or.inr ⟨_, rfl⟩) (wsP_103_3 hs) ?_
    refine sp_iconst (v := 0) dX11_passIt_124 (by decide) ?_
    refine sp_iald2 (j := 0) dX11_passIt_125 (wsA_105 hs) (wsN_105 hs) rfl ?_
    refine sp_icmp_ge (tgt := 158) dX11_passIt_126 (by decide) (fun hc23 => ?_) (fun hc23 => ?_)
    · have h := (if_pos hc23).symm.trans h
      refine sp_weak [true, false, false] [some (.ref 103), none, none] rfl ?_
      exact hx _ h
    · have h := (if_neg hc23).symm.trans h
      refine sp_aload_n dX11_passIt_129 rfl rfl ?_
      refine sp_getR (RX11, TX11, 56) dX11_passIt_130 clX11 (j := 42) (by decide) tw_1257 (wsI_103 hs) (Or.inr ⟨_, rfl⟩) (wsP_103_42 hs) ?_
      refine sp_iload_n dX11_passIt_133 rfl rfl ?_
      refine sp_aload_n dX11_passIt_134 rfl rfl ?_
      refine sp_iload_n dX11_passIt_135 rfl rfl ?_
      obtain ⟨v24, hv24, h⟩ := Option.bind_eq_some_iff.mp h
      refine sp_cV (M1 := M) (r := some (.int v24)) (o := 103) (st := [.int a1, .ref 125]) (c := 10) (RX11, TX11, 56) [.int a1] [.int a1, .ref 103, .int a1, .ref 125] [.int v24, .int a1, .ref 125] dX11_passIt_136 okX11_isLoose tw_1428 tw_1430 tw_31 (by decide) (by decide) rfl (Nat.le_of_ble_eq_true rfl) rfl rfl rfl rfl (wsI_103 hs) (fun Q hQ => tX11_isLoose hG hv24 hQ) ?_
      refine sp_if_eq (tgt := 150) dX11_passIt_139 (by decide) (fun hc25 => ?_) (fun hc25 => ?_)
      · have h := (if_pos hc25).symm.trans h
        refine sp_iconst (v := 0) dX11_passIt_150 (by decide) ?_
        obtain ⟨j26, hj26, h⟩ := Option.bind_eq_some_iff.mp h
        obtain ⟨M27, hM27, h⟩ := sp_do_e h
        refine sp_iast2 (j := j26) hG dX11_passIt_151 (wsA_125 hs) (wsN_125 hs) hj26 hM27 ?_
        refine sp_iinc (v := (a1 + 1)) [some (.ref 103), some (.int (a1 + 1)), none] dX11_passIt_152 rfl rfl (by decide) rfl ?_
        refine sp_goto (tgt := 119) dX11_passIt_155 (by decide) ?_
        refine sp_weak [true, true, false] [some (.ref 103), some (.int (a1 + 1)), none] rfl ?_
        exact ih _ _ h
      · have h := (if_neg hc25).symm.trans h
        refine sp_aload_n dX11_passIt_142 rfl rfl ?_
        refine sp_iload_n dX11_passIt_143 rfl rfl ?_
        obtain ⟨x28, hx28, h⟩ := Option.bind_eq_some_iff.mp h
        refine sp_cV (M1 := x28.2) (r := some (.int x28.1)) (o := 103) (st := [.int a1, .ref 125]) (c := 10) (RX11, TX11, 56) [.int a1] [.int a1, .ref 103, .int a1, .ref 125] [.int x28.1, .int a1, .ref 125] dX11_passIt_144 okX11_burnsOf tw_1461 tw_1463 tw_37 (by decide) (by decide) rfl (Nat.le_of_ble_eq_true rfl) rfl rfl rfl rfl (wsI_103 hs) (fun Q hQ => tX11_burnsOf hG hx28 hQ) ?_
        refine sp_goto (tgt := 151) dX11_passIt_147 (by decide) ?_
        refine sp_use (fun ho => ?_)
        have hs := hG.1 _ ho
        obtain ⟨j29, hj29, h⟩ := Option.bind_eq_some_iff.mp h
        obtain ⟨M30, hM30, h⟩ := sp_do_e h
        refine sp_iast2 (j := j29) hG dX11_passIt_151 (wsA_125 hs) (wsN_125 hs) hj29 hM30 ?_
        refine sp_iinc (v := (a1 + 1)) [some (.ref 103), some (.int (a1 + 1)), none] dX11_passIt_152 rfl rfl (by decide) rfl ?_
        refine sp_goto (tgt := 119) dX11_passIt_155 (by decide) ?_
        refine sp_weak [true, true, false] [some (.ref 103), some (.int (a1 + 1)), none] rfl ?_
        exact ih _ _ h
set_option maxRecDepth 100000 in
set_option maxHeartbeats 4000000 in
theorem tX11_passIt_l160 {g : sp_G} {Ω : sp_Mem → Prop} {Q : sp_Qt} {F : Nat} {p : sp_Mem} (hG : sp_Ok Ω)  {kx : sp_Mem → Option sp_Mem} (hQ : Q none p) (hx : ∀  (M : sp_Mem), kx M = some p → sp_Wp g Ω mX11_passIt 0 0 225 [some (.ref 103), none, none] [] M Q) : ∀ (n : Nat) (a1 : Int32) (M : sp_Mem), fX11_passIt_l160 F kx n a1 M = some p → sp_Wp g Ω mX11_passIt 0 0 160 [some (.ref 103), some (.int a1), none] [] M Q := by
  intro n
  induction n with
  | zero =>
    intro a1 M h
    rw [fX11_passIt_l160] at h
    cases h
  | succ n ih =>
    intro a1 M h
    rw [fX11_passIt_l160] at h
    refine sp_iload_n dX11_passIt_160 rfl rfl ?_
    refine sp_aload_n dX11_passIt_161 rfl rfl ?_
    refine sp_use (fun ho => ?_)
    have hs := hG.1 _ ho
    refine sp_getR (RX11, TX11, 56) dX11_passIt_162 clX11 (j := 3) (by decide) tw_1218 (wsI_103 hs) (Or.inr ⟨_, rfl⟩) (wsP_103_3 hs) ?_
    refine sp_iconst (v := 0) dX11_passIt_165 (by decide) ?_
    refine sp_iald2 (j := 0) dX11_passIt_166 (wsA_105 hs) (wsN_105 hs) rfl ?_
    refine sp_icmp_ge (tgt := 225) dX11_passIt_167 (by decide) (fun hc32 => ?_) (fun hc32 => ?_)
    · have h := (if_pos hc32).symm.trans h
      refine sp_weak [true, false, false] [some (.ref 103), none, none] rfl ?_
      exact hx _ h
    · have h := (if_neg hc32).symm.trans h
      refine sp_aload_n dX11_passIt_170 rfl rfl ?_
      refine sp_getR (RX11, TX11, 56) dX11_passIt_171 clX11 (j := 3) (by decide) tw_1218 (wsI_103 hs) (Or.inr ⟨_, rfl⟩) (wsP_103_3 hs) ?_
      refine sp_bipush (v := 15) dX11_passIt_174 (by decide) ?_
      refine sp_iload_n dX11_passIt_176 rfl rfl ?_
      refine sp_iadd dX11_passIt_177 ?_
      refine sp_aload_n dX11_passIt_178 rfl rfl ?_
      refine sp_getR (RX11, TX11, 56) dX11_passIt_179 clX11 (j := 3) (by decide) tw_1218 (wsI_103 hs) (Or.inr ⟨_, rfl⟩) (wsP_103_3 hs) ?_
      refine sp_bipush (v := 15) dX11_passIt_182 (by decide) ?_
      refine sp_iload_n dX11_passIt_184 rfl rfl ?_
      refine sp_iadd dX11_passIt_185 ?_
      obtain ⟨j33, hj33, h⟩ := Option.bind_eq_some_iff.mp h
      refine sp_iald2 (j := j33) dX11_passIt_186 (wsA_105 hs) (wsN_105 hs) hj33 ?_
      refine sp_aload_n dX11_passIt_187 rfl rfl ?_
      refine sp_getR (RX11, TX11, 56) dX11_passIt_188 clX11 (j := 42) (by decide) tw_1257 (wsI_103 hs) (Or.inr ⟨_, rfl⟩) (wsP_103_42 hs) ?_
      refine sp_iload_n dX11_passIt_191 rfl rfl ?_
      obtain ⟨j34, hj34, h⟩ := Option.bind_eq_some_iff.mp h
      refine sp_iald2 (j := j34) dX11_passIt_192 (wsA_125 hs) (wsN_125 hs) hj34 ?_
      refine sp_iadd dX11_passIt_193 ?_
      refine sp_i2l dX11_passIt_194 ?_
      refine sp_iconst (v := 0) dX11_passIt_195 (by decide) ?_
      refine sp_bipush (v := 9) dX11_passIt_196 (by decide) ?_
      refine sp_cS (M1 := M) (r := some (.int (fX11_within (Int32.toInt64 ((sp_I M 105 j33) + (sp_I M 125 j34))) 0 9))) (st := [.int (15 + a1), .ref 105]) [.long (Int32.toInt64 ((sp_I M 105 j33) + (sp_I M 125 j34))), .int 0, .int 9] [.int 9, .int 0, .long (Int32.toInt64 ((sp_I M 105 j33) + (sp_I M 125 j34))), .int (15 + a1), .ref 105] [.int (fX11_within (Int32.toInt64 ((sp_I M 105 j33) + (sp_I M 125 j34))) 0 9), .int (15 + a1), .ref 105] dX11_passIt_198 okX11_within tw_1458 tw_1459 (by decide) (by decide) rfl (Nat.le_of_ble_eq_true rfl) rfl rfl (fun Q hQ => tX11_within hG rfl hQ) ?_
      obtain ⟨j35, hj35, h⟩ := Option.bind_eq_some_iff.mp h
      obtain ⟨M36, hM36, h⟩ := sp_do_e h
      refine sp_iast2 (j := j35) hG dX11_passIt_201 (wsA_105 hs) (wsN_105 hs) hj35 hM36 ?_
      refine sp_aload_n dX11_passIt_202 rfl rfl ?_
      refine sp_use (fun ho => ?_)
      have hs := hG.1 _ ho
      refine sp_getR (RX11, TX11, 56) dX11_passIt_203 clX11 (j := 3) (by decide) tw_1218 (wsI_103 hs) (Or.inr ⟨_, rfl⟩) (wsP_103_3 hs) ?_
      refine sp_bipush (v := 15) dX11_passIt_206 (by decide) ?_
      refine sp_iload_n dX11_passIt_208 rfl rfl ?_
      refine sp_iadd dX11_passIt_209 ?_
      obtain ⟨j37, hj37, h⟩ := Option.bind_eq_some_iff.mp h
      refine sp_iald2 (j := j37) dX11_passIt_210 (wsA_105 hs) (wsN_105 hs) hj37 ?_
      refine sp_if_ne (tgt := 219) dX11_passIt_211 (by decide) (fun hc38 => ?_) (fun hc38 => ?_)
      · have h := (if_neg hc38).symm.trans h
        refine sp_iinc (v := (a1 + 1)) [some (.ref 103), some (.int (a1 + 1)), none] dX11_passIt_219 rfl rfl (by decide) rfl ?_
        refine sp_goto (tgt := 160) dX11_passIt_222 (by decide) ?_
        refine sp_weak [true, true, false] [some (.ref 103), some (.int (a1 + 1)), none] rfl ?_
        exact ih _ _ h
      · have h := (if_pos hc38).symm.trans h
        refine sp_aload_n dX11_passIt_214 rfl rfl ?_
        refine sp_iload_n dX11_passIt_215 rfl rfl ?_
        obtain ⟨M39, hM39, h⟩ := Option.bind_eq_some_iff.mp h
        refine sp_cV (M1 := M39) (r := none) (o := 103) (st := []) (c := 10) (RX11, TX11, 56) [.int a1] [.int a1, .ref 103] [] dX11_passIt_216 okX11_endSpark tw_1695 tw_1697 tw_73 (by decide) (by decide) rfl (Nat.le_of_ble_eq_true rfl) rfl rfl rfl rfl (wsI_103 hs) (fun Q hQ => tX11_endSpark hG hM39 hQ) ?_
        refine sp_iinc (v := (a1 + 1)) [some (.ref 103), some (.int (a1 + 1)), none] dX11_passIt_219 rfl rfl (by decide) rfl ?_
        refine sp_goto (tgt := 160) dX11_passIt_222 (by decide) ?_
        refine sp_weak [true, true, false] [some (.ref 103), some (.int (a1 + 1)), none] rfl ?_
        exact ih _ _ h
set_option maxRecDepth 100000 in
set_option maxHeartbeats 4000000 in
theorem tX11_passIt {g : sp_G} {Ω : sp_Mem → Prop} {Q : sp_Qt} {F : Nat} {p : sp_Mem} (hG : sp_Ok Ω) {M : sp_Mem} (h : fX11_passIt F M = some p) (hQ : Q none p) : sp_Mt g Ω mX11_passIt 0 0 [.ref 103] M Q := by
  unfold fX11_passIt at h
  refine sp_Mt.of [some (.ref 103), none, none] (by decide) (by simp [sp_ent, Value.category]) rfl ?_
  refine sp_iconst (v := 0) dX11_passIt_0 (by decide) ?_
  refine sp_istore_n [some (.ref 103), some (.int 0), none] dX11_passIt_1 rfl (by decide) rfl ?_
  refine sp_weak [true, true, false] [some (.ref 103), some (.int 0), none] rfl ?_
  refine tX11_passIt_l2 hG hQ (fun M17 h => ?_) F _ _ h
  refine sp_iconst (v := 0) dX11_passIt_84 (by decide) ?_
  refine sp_istore_n [some (.ref 103), some (.int 0), none] dX11_passIt_85 rfl (by decide) rfl ?_
  refine sp_weak [true, true, false] [some (.ref 103), some (.int 0), none] rfl ?_
  refine tX11_passIt_l86 hG hQ (fun M22 h => ?_) F _ _ h
  refine sp_iconst (v := 0) dX11_passIt_117 (by decide) ?_
  refine sp_istore_n [some (.ref 103), some (.int 0), none] dX11_passIt_118 rfl (by decide) rfl ?_
  refine sp_weak [true, true, false] [some (.ref 103), some (.int 0), none] rfl ?_
  refine tX11_passIt_l119 hG hQ (fun M31 h => ?_) F _ _ h
  refine sp_iconst (v := 0) dX11_passIt_158 (by decide) ?_
  refine sp_istore_n [some (.ref 103), some (.int 0), none] dX11_passIt_159 rfl (by decide) rfl ?_
  refine sp_weak [true, true, false] [some (.ref 103), some (.int 0), none] rfl ?_
  refine tX11_passIt_l160 hG hQ (fun M40 h => ?_) F _ _ h
  refine sp_aload_n dX11_passIt_225 rfl rfl ?_
  refine sp_use (fun ho => ?_)
  have hs := hG.1 _ ho
  refine sp_getR (RX11, TX11, 56) dX11_passIt_226 clX11 (j := 3) (by decide) tw_1218 (wsI_103 hs) (Or.inr ⟨_, rfl⟩) (wsP_103_3 hs) ?_
  refine sp_iconst (v := 5) dX11_passIt_229 (by decide) ?_
  refine sp_dup2 dX11_passIt_230 rfl rfl ?_
  refine sp_iald2 (j := 5) dX11_passIt_231 (wsA_105 hs) (wsN_105 hs) rfl ?_
  refine sp_iconst (v := 1) dX11_passIt_232 (by decide) ?_
  refine sp_iadd dX11_passIt_233 ?_
  obtain ⟨M41, hM41, h⟩ := sp_do_e h
  refine sp_iast2 (j := 5) hG dX11_passIt_234 (wsA_105 hs) (wsN_105 hs) rfl hM41 ?_
  cases h
  exact sp_vret dX11_passIt_235 rfl (fun _ => hQ)
def fX11_passNow (F : Nat) (M : sp_Mem) : Option (Int32 × sp_Mem) :=
  if (sp_I M 105 5) = 999 then (some ((-3), M)) else ((fX11_remember F M 3).bind fun M2 => (fX11_passIt F M2).bind fun M3 => some ((sp_I M3 105 5), M3))
set_option maxRecDepth 100000 in
set_option maxHeartbeats 4000000 in
theorem tX11_passNow {g : sp_G} {Ω : sp_Mem → Prop} {Q : sp_Qt} {F : Nat} {p : (Int32 × sp_Mem)} (hG : sp_Ok Ω) {M : sp_Mem} (h : fX11_passNow F M = some p) (hQ : Q (some (.int p.1)) p.2) : sp_Mt g Ω mX11_passNow 0 0 [.ref 103] M Q := by
  unfold fX11_passNow at h
  refine sp_Mt.of [some (.ref 103)] (by decide) (by simp [sp_ent, Value.category]) rfl ?_
  refine sp_aload_n dX11_passNow_0 rfl rfl ?_
  refine sp_use (fun ho => ?_)
  have hs := hG.1 _ ho
  refine sp_getR (RX11, TX11, 56) dX11_passNow_1 clX11 (j := 3) (by decide) tw_1218 (wsI_103 hs) (Or.inr ⟨_, rfl⟩) (wsP_103_3 hs) ?_
  refine sp_iconst (v := 5) dX11_passNow_4 (by decide) ?_
  refine sp_iald2 (j := 5) dX11_passNow_5 (wsA_105 hs) (wsN_105 hs) rfl ?_
  refine sp_sipush (v := 999) dX11_passNow_6 (by decide) ?_
  refine sp_icmp_ne (tgt := 15) dX11_passNow_9 (by decide) (fun hc1 => ?_) (fun hc1 => ?_)
  · have h := (if_neg hc1).symm.trans h
    refine sp_aload_n dX11_passNow_15 rfl rfl ?_
    refine sp_iconst (v := 3) dX11_passNow_16 (by decide) ?_
    obtain ⟨M2, hM2, h⟩ := Option.bind_eq_some_iff.mp h
    refine sp_cV (M1 := M2) (r := none) (o := 103) (st := []) (c := 10) (RX11, TX11, 56) [.int 3] [.int 3, .ref 103] [] dX11_passNow_17 okX11_remember tw_1683 tw_1685 tw_70 (by decide) (by decide) rfl (Nat.le_of_ble_eq_true rfl) rfl rfl rfl rfl (wsI_103 hs) (fun Q hQ => tX11_remember hG hM2 hQ) ?_
    refine sp_aload_n dX11_passNow_20 rfl rfl ?_
    refine sp_use (fun ho => ?_)
    have hs := hG.1 _ ho
    obtain ⟨M3, hM3, h⟩ := Option.bind_eq_some_iff.mp h
    refine sp_cV (M1 := M3) (r := none) (o := 103) (st := []) (c := 10) (RX11, TX11, 56) [] [.ref 103] [] dX11_passNow_21 okX11_passIt tw_1731 tw_1733 tw_78 (by decide) (by decide) rfl (Nat.le_of_ble_eq_true rfl) rfl rfl rfl rfl (wsI_103 hs) (fun Q hQ => tX11_passIt hG hM3 hQ) ?_
    refine sp_aload_n dX11_passNow_24 rfl rfl ?_
    refine sp_use (fun ho => ?_)
    have hs := hG.1 _ ho
    refine sp_getR (RX11, TX11, 56) dX11_passNow_25 clX11 (j := 3) (by decide) tw_1218 (wsI_103 hs) (Or.inr ⟨_, rfl⟩) (wsP_103_3 hs) ?_
    refine sp_iconst (v := 5) dX11_passNow_28 (by decide) ?_
    refine sp_iald2 (j := 5) dX11_passNow_29 (wsA_105 hs) (wsN_105 hs) rfl ?_
    cases h
    exact sp_iret dX11_passNow_30 (ty := .int) rfl rfl (fun _ => hQ)
  · have h := (if_pos hc1).symm.trans h
    refine sp_bipush (v := (-3)) dX11_passNow_12 (by decide) ?_
    cases h
    exact sp_iret dX11_passNow_14 (ty := .int) rfl rfl (fun _ => hQ)
def fX11_pass (F : Nat) (M : sp_Mem) : Option (Int32 × sp_Mem) :=
  sp_do (sp_setI M 103 0 0) fun M1 => (fX11_passNow F M1).bind fun x2 => (fX11_tell x2.2 x2.1).bind fun x3 => some (x3.1, x3.2)
set_option maxRecDepth 100000 in
set_option maxHeartbeats 4000000 in
theorem tX11_pass {g : sp_G} {Ω : sp_Mem → Prop} {Q : sp_Qt} {F : Nat} {p : (Int32 × sp_Mem)} (hG : sp_Ok Ω) {M : sp_Mem} (h : fX11_pass F M = some p) (hQ : Q (some (.int p.1)) p.2) : sp_Mt g Ω mX11_pass 0 0 [.ref 103] M Q := by
  unfold fX11_pass at h
  refine sp_Mt.of [some (.ref 103)] (by decide) (by simp [sp_ent, Value.category]) rfl ?_
  refine sp_aload_n dX11_pass_0 rfl rfl ?_
  refine sp_iconst (v := 0) dX11_pass_1 (by decide) ?_
  refine sp_use (fun ho => ?_)
  have hs := hG.1 _ ho
  obtain ⟨M1, hM1, h⟩ := sp_do_e h
  refine sp_putI2 (RX11, TX11, 56) hG dX11_pass_2 clX11 (j := 0) (by decide) tw_1215 rfl (Or.inl rfl) (wsI_103 hs) hM1 ?_
  refine sp_aload_n dX11_pass_5 rfl rfl ?_
  refine sp_aload_n dX11_pass_6 rfl rfl ?_
  refine sp_use (fun ho => ?_)
  have hs := hG.1 _ ho
  obtain ⟨x2, hx2, h⟩ := Option.bind_eq_some_iff.mp h
  refine sp_cV (M1 := x2.2) (r := some (.int x2.1)) (o := 103) (st := [.ref 103]) (c := 10) (RX11, TX11, 56) [] [.ref 103, .ref 103] [.int x2.1, .ref 103] dX11_pass_7 okX11_passNow tw_1727 tw_1729 tw_77 (by decide) (by decide) rfl (Nat.le_of_ble_eq_true rfl) rfl rfl rfl rfl (wsI_103 hs) (fun Q hQ => tX11_passNow hG hx2 hQ) ?_
  refine sp_use (fun ho => ?_)
  have hs := hG.1 _ ho
  obtain ⟨x3, hx3, h⟩ := Option.bind_eq_some_iff.mp h
  refine sp_cV (M1 := x3.2) (r := some (.int x3.1)) (o := 103) (st := []) (c := 10) (RX11, TX11, 56) [.int x2.1] [.int x2.1, .ref 103] [.int x3.1] dX11_pass_10 okX11_tell tw_1388 tw_1390 tw_27 (by decide) (by decide) rfl (Nat.le_of_ble_eq_true rfl) rfl rfl rfl rfl (wsI_103 hs) (fun Q hQ => tX11_tell hG hx3 hQ) ?_
  cases h
  exact sp_iret dX11_pass_13 (ty := .int) rfl rfl (fun _ => hQ)
def fX11_where_l36 (F : Nat) (kx : Int32 → sp_Mem → Option (Int32 × sp_Mem)) : Nat → Int32 → Int32 → Int32 → sp_Mem → Option (Int32 × sp_Mem)
  | 0, _, _, _, _ => none
  | n + 1, a1, a2, a3, M =>
  if a2 ≤ a3 then (kx a1 M) else ((fX11_passIt F M).bind fun M7 => (fX11_where_l36 F kx n) a1 a2 (a3 + 1) M7)
def fX11_where (F : Nat) (M : sp_Mem) (a1 : Int32) (a2 : Int32) : Option (Int32 × sp_Mem) :=
  sp_do (sp_setI M 103 0 0) fun M1 => (fX11_isSpark M1 a1).bind fun v2 => if v2 = 0 then (some ((-100), M1)) else (if (fX11_in (Int32.toInt64 a2) 0 60) = 0 then (some ((-100), M1)) else ((fX11_keepAll F M1 16).bind fun M5 => fX11_where_l36 F (fun b9 M8 => (sp_ix 5480 (9 + b9)).bind fun j10 => sp_do ((sp_I M8 105 j10)) fun u11 => (fX11_putBack F M8 16).bind fun M12 => some (u11, M12)) F a1 a2 0 M5))
set_option maxRecDepth 100000 in
set_option maxHeartbeats 4000000 in
theorem tX11_where_l36 {g : sp_G} {Ω : sp_Mem → Prop} {Q : sp_Qt} {F : Nat} {p : (Int32 × sp_Mem)} (hG : sp_Ok Ω)  {kx : Int32 → sp_Mem → Option (Int32 × sp_Mem)} (hQ : Q (some (.int p.1)) p.2) (hx : ∀ (a1 : Int32) (M : sp_Mem), kx a1 M = some p → sp_Wp g Ω mX11_where 0 0 51 [some (.ref 103), some (.int a1), none, none] [] M Q) : ∀ (n : Nat) (a1 : Int32) (a2 : Int32) (a3 : Int32) (M : sp_Mem), fX11_where_l36 F kx n a1 a2 a3 M = some p → sp_Wp g Ω mX11_where 0 0 36 [some (.ref 103), some (.int a1), some (.int a2), some (.int a3)] [] M Q := by
  intro n
  induction n with
  | zero =>
    intro a1 a2 a3 M h
    rw [fX11_where_l36] at h
    cases h
  | succ n ih =>
    intro a1 a2 a3 M h
    rw [fX11_where_l36] at h
    refine sp_iload_n dX11_where_36 rfl rfl ?_
    refine sp_iload_n dX11_where_37 rfl rfl ?_
    refine sp_icmp_ge (tgt := 51) dX11_where_38 (by decide) (fun hc6 => ?_) (fun hc6 => ?_)
    · have h := (if_pos hc6).symm.trans h
      refine sp_weak [true, true, false, false] [some (.ref 103), some (.int a1), none, none] rfl ?_
      exact hx _ _ h
    · have h := (if_neg hc6).symm.trans h
      refine sp_aload_n dX11_where_41 rfl rfl ?_
      refine sp_use (fun ho => ?_)
      have hs := hG.1 _ ho
      obtain ⟨M7, hM7, h⟩ := Option.bind_eq_some_iff.mp h
      refine sp_cV (M1 := M7) (r := none) (o := 103) (st := []) (c := 10) (RX11, TX11, 56) [] [.ref 103] [] dX11_where_42 okX11_passIt tw_1731 tw_1733 tw_78 (by decide) (by decide) rfl (Nat.le_of_ble_eq_true rfl) rfl rfl rfl rfl (wsI_103 hs) (fun Q hQ => tX11_passIt hG hM7 hQ) ?_
      refine sp_iinc (v := (a3 + 1)) [some (.ref 103), some (.int a1), some (.int a2), some (.int (a3 + 1))] dX11_where_45 rfl rfl (by decide) rfl ?_
      refine sp_goto (tgt := 36) dX11_where_48 (by decide) ?_
      refine sp_weak [true, true, true, true] [some (.ref 103), some (.int a1), some (.int a2), some (.int (a3 + 1))] rfl ?_
      exact ih _ _ _ _ h
set_option maxRecDepth 100000 in
set_option maxHeartbeats 4000000 in
theorem tX11_where {g : sp_G} {Ω : sp_Mem → Prop} {Q : sp_Qt} {F : Nat} {p : (Int32 × sp_Mem)} (hG : sp_Ok Ω) {M : sp_Mem} {a1 : Int32} {a2 : Int32} (h : fX11_where F M a1 a2 = some p) (hQ : Q (some (.int p.1)) p.2) : sp_Mt g Ω mX11_where 0 0 [.ref 103, .int a1, .int a2] M Q := by
  unfold fX11_where at h
  refine sp_Mt.of [some (.ref 103), some (.int a1), some (.int a2), none] (by decide) (by simp [sp_ent, Value.category]) rfl ?_
  refine sp_aload_n dX11_where_0 rfl rfl ?_
  refine sp_iconst (v := 0) dX11_where_1 (by decide) ?_
  refine sp_use (fun ho => ?_)
  have hs := hG.1 _ ho
  obtain ⟨M1, hM1, h⟩ := sp_do_e h
  refine sp_putI2 (RX11, TX11, 56) hG dX11_where_2 clX11 (j := 0) (by decide) tw_1215 rfl (Or.inl rfl) (wsI_103 hs) hM1 ?_
  refine sp_aload_n dX11_where_5 rfl rfl ?_
  refine sp_iload_n dX11_where_6 rfl rfl ?_
  refine sp_use (fun ho => ?_)
  have hs := hG.1 _ ho
  obtain ⟨v2, hv2, h⟩ := Option.bind_eq_some_iff.mp h
  refine sp_cV (M1 := M1) (r := some (.int v2)) (o := 103) (st := []) (c := 10) (RX11, TX11, 56) [.int a1] [.int a1, .ref 103] [.int v2] dX11_where_7 okX11_isSpark tw_1424 tw_1426 tw_30 (by decide) (by decide) rfl (Nat.le_of_ble_eq_true rfl) rfl rfl rfl rfl (wsI_103 hs) (fun Q hQ => tX11_isSpark hG hv2 hQ) ?_
  refine sp_if_eq (tgt := 25) dX11_where_10 (by decide) (fun hc3 => ?_) (fun hc3 => ?_)
  · have h := (if_pos hc3).symm.trans h
    refine sp_bipush (v := (-100)) dX11_where_25 (by decide) ?_
    cases h
    exact sp_iret dX11_where_27 (ty := .int) rfl rfl (fun _ => hQ)
  · have h := (if_neg hc3).symm.trans h
    refine sp_iload_n dX11_where_13 rfl rfl ?_
    refine sp_i2l dX11_where_14 ?_
    refine sp_lconst (v := 0) dX11_where_15 (by decide) ?_
    refine sp_ldc2 (v := 60) dX11_where_16 tw_1743 ?_
    refine sp_cS (M1 := M1) (r := some (.int (fX11_in (Int32.toInt64 a2) 0 60))) (st := []) [.long (Int32.toInt64 a2), .long 0, .long 60] [.long 60, .long 0, .long (Int32.toInt64 a2)] [.int (fX11_in (Int32.toInt64 a2) 0 60)] dX11_where_19 okX11_in tw_1400 tw_1401 (by decide) (by decide) rfl (Nat.le_of_ble_eq_true rfl) rfl rfl (fun Q hQ => tX11_in hG rfl hQ) ?_
    refine sp_if_ne (tgt := 28) dX11_where_22 (by decide) (fun hc4 => ?_) (fun hc4 => ?_)
    · have h := (if_neg hc4).symm.trans h
      refine sp_aload_n dX11_where_28 rfl rfl ?_
      refine sp_bipush (v := 16) dX11_where_29 (by decide) ?_
      obtain ⟨M5, hM5, h⟩ := Option.bind_eq_some_iff.mp h
      refine sp_cV (M1 := M5) (r := none) (o := 103) (st := []) (c := 10) (RX11, TX11, 56) [.int 16] [.int 16, .ref 103] [] dX11_where_31 okX11_keepAll tw_1687 tw_1689 tw_71 (by decide) (by decide) rfl (Nat.le_of_ble_eq_true rfl) rfl rfl rfl rfl (wsI_103 hs) (fun Q hQ => tX11_keepAll hG hM5 hQ) ?_
      refine sp_iconst (v := 0) dX11_where_34 (by decide) ?_
      refine sp_istore_n [some (.ref 103), some (.int a1), some (.int a2), some (.int 0)] dX11_where_35 rfl (by decide) rfl ?_
      refine sp_weak [true, true, true, true] [some (.ref 103), some (.int a1), some (.int a2), some (.int 0)] rfl ?_
      refine tX11_where_l36 hG hQ (fun b9 M8 h => ?_) F _ _ _ _ h
      refine sp_aload_n dX11_where_51 rfl rfl ?_
      refine sp_use (fun ho => ?_)
      have hs := hG.1 _ ho
      refine sp_getR (RX11, TX11, 56) dX11_where_52 clX11 (j := 3) (by decide) tw_1218 (wsI_103 hs) (Or.inr ⟨_, rfl⟩) (wsP_103_3 hs) ?_
      refine sp_bipush (v := 9) dX11_where_55 (by decide) ?_
      refine sp_iload_n dX11_where_57 rfl rfl ?_
      refine sp_iadd dX11_where_58 ?_
      obtain ⟨j10, hj10, h⟩ := Option.bind_eq_some_iff.mp h
      refine sp_iald2 (j := j10) dX11_where_59 (wsA_105 hs) (wsN_105 hs) hj10 ?_
      obtain ⟨u11, hu11, h⟩ := sp_do_e h
      refine sp_topi hu11 ?_
      refine sp_istore_n [some (.ref 103), some (.int b9), none, some (.int u11)] dX11_where_60 rfl (by decide) rfl ?_
      refine sp_aload_n dX11_where_61 rfl rfl ?_
      refine sp_bipush (v := 16) dX11_where_62 (by decide) ?_
      obtain ⟨M12, hM12, h⟩ := Option.bind_eq_some_iff.mp h
      refine sp_cV (M1 := M12) (r := none) (o := 103) (st := []) (c := 10) (RX11, TX11, 56) [.int 16] [.int 16, .ref 103] [] dX11_where_64 okX11_putBack tw_1392 tw_1394 tw_28 (by decide) (by decide) rfl (Nat.le_of_ble_eq_true rfl) rfl rfl rfl rfl (wsI_103 hs) (fun Q hQ => tX11_putBack hG hM12 hQ) ?_
      refine sp_iload_n dX11_where_67 rfl rfl ?_
      cases h
      exact sp_iret dX11_where_68 (ty := .int) rfl rfl (fun _ => hQ)
    · have h := (if_pos hc4).symm.trans h
      refine sp_bipush (v := (-100)) dX11_where_25 (by decide) ?_
      cases h
      exact sp_iret dX11_where_27 (ty := .int) rfl rfl (fun _ => hQ)
def fX11_sparkAt_l11 (F : Nat) (M0 : sp_Mem) (kx : Int32 → Option Int32) : Nat → Int32 → Int32 → Int32 → Option Int32
  | 0, _, _, _ => none
  | n + 1, a1, a2, a3 =>
  if a3 < 0 then (kx a2) else ((sp_ix 5480 (9 + a3)).bind fun j3 => sp_do ((if (sp_I M0 105 j3) = a1 then a3 else a2)) fun u5 => (fX11_sparkAt_l11 F M0 kx n) a1 u5 (a3 + (-1)))
def fX11_sparkAt (F : Nat) (M0 : sp_Mem) (a1 : Int32) : Option Int32 :=
  sp_do (((sp_I M0 105 0) - 1)) fun u1 => fX11_sparkAt_l11 F M0 (fun b7 => some b7) F a1 (-1) u1
set_option maxRecDepth 100000 in
set_option maxHeartbeats 4000000 in
theorem tX11_sparkAt_l11 {g : sp_G} {Ω : sp_Mem → Prop} {Q : sp_Qt} {F : Nat} {M0 : sp_Mem} {p : Int32} (hG : sp_Ok Ω)  {kx : Int32 → Option Int32} (hQ : Q (some (.int p)) M0) (hx : ∀ (a2 : Int32), kx a2 = some p → sp_Wp g Ω mX11_sparkAt 0 0 40 [none, none, some (.int a2), none] [] M0 Q) : ∀ (n : Nat) (a1 : Int32) (a2 : Int32) (a3 : Int32), fX11_sparkAt_l11 F M0 kx n a1 a2 a3 = some p → sp_Wp g Ω mX11_sparkAt 0 0 11 [some (.ref 103), some (.int a1), some (.int a2), some (.int a3)] [] M0 Q := by
  intro n
  induction n with
  | zero =>
    intro a1 a2 a3 h
    rw [fX11_sparkAt_l11] at h
    cases h
  | succ n ih =>
    intro a1 a2 a3 h
    rw [fX11_sparkAt_l11] at h
    refine sp_iload_n dX11_sparkAt_11 rfl rfl ?_
    refine sp_if_lt (tgt := 40) dX11_sparkAt_12 (by decide) (fun hc2 => ?_) (fun hc2 => ?_)
    · have h := (if_pos hc2).symm.trans h
      refine sp_weak [false, false, true, false] [none, none, some (.int a2), none] rfl ?_
      exact hx _ h
    · have h := (if_neg hc2).symm.trans h
      refine sp_aload_n dX11_sparkAt_15 rfl rfl ?_
      refine sp_use (fun ho => ?_)
      have hs := hG.1 _ ho
      refine sp_getR (RX11, TX11, 56) dX11_sparkAt_16 clX11 (j := 3) (by decide) tw_1218 (wsI_103 hs) (Or.inr ⟨_, rfl⟩) (wsP_103_3 hs) ?_
      refine sp_bipush (v := 9) dX11_sparkAt_19 (by decide) ?_
      refine sp_iload_n dX11_sparkAt_21 rfl rfl ?_
      refine sp_iadd dX11_sparkAt_22 ?_
      obtain ⟨j3, hj3, h⟩ := Option.bind_eq_some_iff.mp h
      refine sp_iald2 (j := j3) dX11_sparkAt_23 (wsA_105 hs) (wsN_105 hs) hj3 ?_
      refine sp_iload_n dX11_sparkAt_24 rfl rfl ?_
      suffices hj : sp_Wp g Ω mX11_sparkAt 0 0 33 [some (.ref 103), some (.int a1), none, some (.int a3)] [.int (if (sp_I M0 105 j3) = a1 then a3 else a2)] M0 Q by
        refine sp_icmp_ne (tgt := 32) dX11_sparkAt_25 (by decide) (fun hc4 => ?_) (fun hc4 => ?_)
        · refine sp_iload_n dX11_sparkAt_32 rfl rfl ?_
          refine sp_weak [true, true, false, true] [some (.ref 103), some (.int a1), none, some (.int a3)] rfl ?_
          simp only [if_neg hc4] at hj
          exact hj
        · refine sp_iload_n dX11_sparkAt_28 rfl rfl ?_
          refine sp_goto (tgt := 33) dX11_sparkAt_29 (by decide) ?_
          refine sp_weak [true, true, false, true] [some (.ref 103), some (.int a1), none, some (.int a3)] rfl ?_
          simp only [if_pos hc4] at hj
          exact hj
      obtain ⟨u5, hu5, h⟩ := sp_do_e h
      refine sp_topi hu5 ?_
      refine sp_istore_n [some (.ref 103), some (.int a1), some (.int u5), some (.int a3)] dX11_sparkAt_33 rfl (by decide) rfl ?_
      refine sp_iinc (v := (a3 + (-1))) [some (.ref 103), some (.int a1), some (.int u5), some (.int (a3 + (-1)))] dX11_sparkAt_34 rfl rfl (by decide) rfl ?_
      refine sp_goto (tgt := 11) dX11_sparkAt_37 (by decide) ?_
      refine sp_weak [true, true, true, true] [some (.ref 103), some (.int a1), some (.int u5), some (.int (a3 + (-1)))] rfl ?_
      exact ih _ _ _ h
set_option maxRecDepth 100000 in
set_option maxHeartbeats 4000000 in
theorem tX11_sparkAt {g : sp_G} {Ω : sp_Mem → Prop} {Q : sp_Qt} {F : Nat} {M0 : sp_Mem} {p : Int32} (hG : sp_Ok Ω) {a1 : Int32} (h : fX11_sparkAt F M0 a1 = some p) (hQ : Q (some (.int p)) M0) : sp_Mt g Ω mX11_sparkAt 0 0 [.ref 103, .int a1] M0 Q := by
  unfold fX11_sparkAt at h
  refine sp_Mt.of [some (.ref 103), some (.int a1), none, none] (by decide) (by simp [sp_ent, Value.category]) rfl ?_
  refine sp_iconst (v := (-1)) dX11_sparkAt_0 (by decide) ?_
  refine sp_istore_n [some (.ref 103), some (.int a1), some (.int (-1)), none] dX11_sparkAt_1 rfl (by decide) rfl ?_
  refine sp_aload_n dX11_sparkAt_2 rfl rfl ?_
  refine sp_use (fun ho => ?_)
  have hs := hG.1 _ ho
  refine sp_getR (RX11, TX11, 56) dX11_sparkAt_3 clX11 (j := 3) (by decide) tw_1218 (wsI_103 hs) (Or.inr ⟨_, rfl⟩) (wsP_103_3 hs) ?_
  refine sp_iconst (v := 0) dX11_sparkAt_6 (by decide) ?_
  refine sp_iald2 (j := 0) dX11_sparkAt_7 (wsA_105 hs) (wsN_105 hs) rfl ?_
  refine sp_iconst (v := 1) dX11_sparkAt_8 (by decide) ?_
  refine sp_isub dX11_sparkAt_9 ?_
  obtain ⟨u1, hu1, h⟩ := sp_do_e h
  refine sp_topi hu1 ?_
  refine sp_istore_n [some (.ref 103), some (.int a1), some (.int (-1)), some (.int u1)] dX11_sparkAt_10 rfl (by decide) rfl ?_
  refine sp_weak [true, true, true, true] [some (.ref 103), some (.int a1), some (.int (-1)), some (.int u1)] rfl ?_
  refine tX11_sparkAt_l11 hG hQ (fun b7 h => ?_) F _ _ _ h
  refine sp_iload_n dX11_sparkAt_40 rfl rfl ?_
  cases h
  exact sp_iret dX11_sparkAt_41 (ty := .int) rfl rfl (fun _ => hQ)
def fX11_first_l32 (F : Nat) (kx : Int32 → Int32 → Int32 → sp_Mem → Option (Int32 × sp_Mem)) : Nat → Int32 → Int32 → Int32 → sp_Mem → Option (Int32 × sp_Mem)
  | 0, _, _, _, _ => none
  | n + 1, a1, a2, a3, M =>
  if 61 ≤ a3 then (kx a1 a2 a3 M) else ((fX11_sparkAt F M a1).bind fun v6 => if v6 = (-1) then ((fX11_passIt F M).bind fun M8 => (fX11_first_l32 F kx n) a1 a2 (a3 + 1) M8) else (kx a1 a2 a3 M))
def fX11_first_j57 (F : Nat) (a1 : Int32) (a2 : Int32) (a3 : Int32) (M : sp_Mem) : Option (Int32 × sp_Mem) :=
  if a3 ≤ 60 then (if a2 = 0 then ((fX11_putBack F M 16).bind fun M17 => some (a3, M17)) else ((fX11_sparkAt F M a1).bind fun v15 => (fX11_putBack F M 16).bind fun M16 => some (v15, M16))) else ((fX11_putBack F M 16).bind fun M18 => some ((-1), M18))
def fX11_first (F : Nat) (M : sp_Mem) (a1 : Int32) (a2 : Int32) : Option (Int32 × sp_Mem) :=
  sp_do (sp_setI M 103 0 0) fun M1 => if (fX11_isCell a1) = 0 then (some ((-1), M1)) else (if (fX11_in (Int32.toInt64 a2) 0 1) = 0 then (some ((-1), M1)) else ((fX11_keepAll F M1 16).bind fun M4 => fX11_first_l32 F (fun b10 b11 b12 M9 => fX11_first_j57 F b10 b11 b12 M9) F a1 a2 0 M4))
set_option maxRecDepth 100000 in
set_option maxHeartbeats 4000000 in
theorem tX11_first_l32 {g : sp_G} {Ω : sp_Mem → Prop} {Q : sp_Qt} {F : Nat} {p : (Int32 × sp_Mem)} (hG : sp_Ok Ω)  {kx : Int32 → Int32 → Int32 → sp_Mem → Option (Int32 × sp_Mem)} (hQ : Q (some (.int p.1)) p.2) (hx : ∀ (a1 : Int32) (a2 : Int32) (a3 : Int32) (M : sp_Mem), kx a1 a2 a3 M = some p → sp_Wp g Ω mX11_first 0 0 57 [some (.ref 103), some (.int a1), some (.int a2), some (.int a3), none] [] M Q) : ∀ (n : Nat) (a1 : Int32) (a2 : Int32) (a3 : Int32) (M : sp_Mem), fX11_first_l32 F kx n a1 a2 a3 M = some p → sp_Wp g Ω mX11_first 0 0 32 [some (.ref 103), some (.int a1), some (.int a2), some (.int a3), none] [] M Q := by
  intro n
  induction n with
  | zero =>
    intro a1 a2 a3 M h
    rw [fX11_first_l32] at h
    cases h
  | succ n ih =>
    intro a1 a2 a3 M h
    rw [fX11_first_l32] at h
    refine sp_iload_n dX11_first_32 rfl rfl ?_
    refine sp_bipush (v := 61) dX11_first_33 (by decide) ?_
    refine sp_icmp_ge (tgt := 57) dX11_first_35 (by decide) (fun hc5 => ?_) (fun hc5 => ?_)
    · have h := (if_pos hc5).symm.trans h
      refine sp_weak [true, true, true, true, false] [some (.ref 103), some (.int a1), some (.int a2), some (.int a3), none] rfl ?_
      exact hx _ _ _ _ h
    · have h := (if_neg hc5).symm.trans h
      refine sp_aload_n dX11_first_38 rfl rfl ?_
      refine sp_iload_n dX11_first_39 rfl rfl ?_
      refine sp_use (fun ho => ?_)
      have hs := hG.1 _ ho
      obtain ⟨v6, hv6, h⟩ := Option.bind_eq_some_iff.mp h
      refine sp_cV (M1 := M) (r := some (.int v6)) (o := 103) (st := []) (c := 10) (RX11, TX11, 56) [.int a1] [.int a1, .ref 103] [.int v6] dX11_first_40 okX11_sparkAt tw_1748 tw_1750 tw_80 (by decide) (by decide) rfl (Nat.le_of_ble_eq_true rfl) rfl rfl rfl rfl (wsI_103 hs) (fun Q hQ => tX11_sparkAt hG hv6 hQ) ?_
      refine sp_iconst (v := (-1)) dX11_first_43 (by decide) ?_
      refine sp_icmp_ne (tgt := 57) dX11_first_44 (by decide) (fun hc7 => ?_) (fun hc7 => ?_)
      · have h := (if_neg hc7).symm.trans h
        refine sp_weak [true, true, true, true, false] [some (.ref 103), some (.int a1), some (.int a2), some (.int a3), none] rfl ?_
        exact hx _ _ _ _ h
      · have h := (if_pos hc7).symm.trans h
        refine sp_aload_n dX11_first_47 rfl rfl ?_
        obtain ⟨M8, hM8, h⟩ := Option.bind_eq_some_iff.mp h
        refine sp_cV (M1 := M8) (r := none) (o := 103) (st := []) (c := 10) (RX11, TX11, 56) [] [.ref 103] [] dX11_first_48 okX11_passIt tw_1731 tw_1733 tw_78 (by decide) (by decide) rfl (Nat.le_of_ble_eq_true rfl) rfl rfl rfl rfl (wsI_103 hs) (fun Q hQ => tX11_passIt hG hM8 hQ) ?_
        refine sp_iinc (v := (a3 + 1)) [some (.ref 103), some (.int a1), some (.int a2), some (.int (a3 + 1)), none] dX11_first_51 rfl rfl (by decide) rfl ?_
        refine sp_goto (tgt := 32) dX11_first_54 (by decide) ?_
        refine sp_weak [true, true, true, true, false] [some (.ref 103), some (.int a1), some (.int a2), some (.int (a3 + 1)), none] rfl ?_
        exact ih _ _ _ _ h
set_option maxRecDepth 100000 in
set_option maxHeartbeats 4000000 in
theorem tX11_first_j57 {g : sp_G} {Ω : sp_Mem → Prop} {Q : sp_Qt} {F : Nat} {p : (Int32 × sp_Mem)} (hG : sp_Ok Ω)  (hQ : Q (some (.int p.1)) p.2) (a1 : Int32) (a2 : Int32) (a3 : Int32) (M : sp_Mem) (h : fX11_first_j57 F a1 a2 a3 M = some p) : sp_Wp g Ω mX11_first 0 0 57 [some (.ref 103), some (.int a1), some (.int a2), some (.int a3), none] [] M Q := by
  unfold fX11_first_j57 at h
  refine sp_iload_n dX11_first_57 rfl rfl ?_
  refine sp_bipush (v := 60) dX11_first_58 (by decide) ?_
  refine sp_icmp_le (tgt := 67) dX11_first_60 (by decide) (fun hc13 => ?_) (fun hc13 => ?_)
  · have h := (if_pos hc13).symm.trans h
    refine sp_iload_n dX11_first_67 rfl rfl ?_
    refine sp_if_ne (tgt := 75) dX11_first_68 (by decide) (fun hc14 => ?_) (fun hc14 => ?_)
    · have h := (if_neg hc14).symm.trans h
      refine sp_aload_n dX11_first_75 rfl rfl ?_
      refine sp_iload_n dX11_first_76 rfl rfl ?_
      refine sp_use (fun ho => ?_)
      have hs := hG.1 _ ho
      obtain ⟨v15, hv15, h⟩ := Option.bind_eq_some_iff.mp h
      refine sp_cV (M1 := M) (r := some (.int v15)) (o := 103) (st := []) (c := 10) (RX11, TX11, 56) [.int a1] [.int a1, .ref 103] [.int v15] dX11_first_77 okX11_sparkAt tw_1748 tw_1750 tw_80 (by decide) (by decide) rfl (Nat.le_of_ble_eq_true rfl) rfl rfl rfl rfl (wsI_103 hs) (fun Q hQ => tX11_sparkAt hG hv15 hQ) ?_
      refine sp_istore [some (.ref 103), some (.int a1), some (.int a2), some (.int a3), some (.int v15)] dX11_first_80 (by decide) rfl ?_
      refine sp_aload_n dX11_first_82 rfl rfl ?_
      refine sp_bipush (v := 16) dX11_first_83 (by decide) ?_
      obtain ⟨M16, hM16, h⟩ := Option.bind_eq_some_iff.mp h
      refine sp_cV (M1 := M16) (r := none) (o := 103) (st := []) (c := 10) (RX11, TX11, 56) [.int 16] [.int 16, .ref 103] [] dX11_first_85 okX11_putBack tw_1392 tw_1394 tw_28 (by decide) (by decide) rfl (Nat.le_of_ble_eq_true rfl) rfl rfl rfl rfl (wsI_103 hs) (fun Q hQ => tX11_putBack hG hM16 hQ) ?_
      refine sp_iload dX11_first_88 rfl ?_
      cases h
      exact sp_iret dX11_first_90 (ty := .int) rfl rfl (fun _ => hQ)
    · have h := (if_pos hc14).symm.trans h
      refine sp_iload_n dX11_first_71 rfl rfl ?_
      refine sp_goto (tgt := 80) dX11_first_72 (by decide) ?_
      refine sp_istore [some (.ref 103), some (.int a1), some (.int a2), some (.int a3), some (.int a3)] dX11_first_80 (by decide) rfl ?_
      refine sp_aload_n dX11_first_82 rfl rfl ?_
      refine sp_bipush (v := 16) dX11_first_83 (by decide) ?_
      refine sp_use (fun ho => ?_)
      have hs := hG.1 _ ho
      obtain ⟨M17, hM17, h⟩ := Option.bind_eq_some_iff.mp h
      refine sp_cV (M1 := M17) (r := none) (o := 103) (st := []) (c := 10) (RX11, TX11, 56) [.int 16] [.int 16, .ref 103] [] dX11_first_85 okX11_putBack tw_1392 tw_1394 tw_28 (by decide) (by decide) rfl (Nat.le_of_ble_eq_true rfl) rfl rfl rfl rfl (wsI_103 hs) (fun Q hQ => tX11_putBack hG hM17 hQ) ?_
      refine sp_iload dX11_first_88 rfl ?_
      cases h
      exact sp_iret dX11_first_90 (ty := .int) rfl rfl (fun _ => hQ)
  · have h := (if_neg hc13).symm.trans h
    refine sp_iconst (v := (-1)) dX11_first_63 (by decide) ?_
    refine sp_goto (tgt := 80) dX11_first_64 (by decide) ?_
    refine sp_istore [some (.ref 103), some (.int a1), some (.int a2), some (.int a3), some (.int (-1))] dX11_first_80 (by decide) rfl ?_
    refine sp_aload_n dX11_first_82 rfl rfl ?_
    refine sp_bipush (v := 16) dX11_first_83 (by decide) ?_
    refine sp_use (fun ho => ?_)
    have hs := hG.1 _ ho
    obtain ⟨M18, hM18, h⟩ := Option.bind_eq_some_iff.mp h
    refine sp_cV (M1 := M18) (r := none) (o := 103) (st := []) (c := 10) (RX11, TX11, 56) [.int 16] [.int 16, .ref 103] [] dX11_first_85 okX11_putBack tw_1392 tw_1394 tw_28 (by decide) (by decide) rfl (Nat.le_of_ble_eq_true rfl) rfl rfl rfl rfl (wsI_103 hs) (fun Q hQ => tX11_putBack hG hM18 hQ) ?_
    refine sp_iload dX11_first_88 rfl ?_
    cases h
    exact sp_iret dX11_first_90 (ty := .int) rfl rfl (fun _ => hQ)
set_option maxRecDepth 100000 in
set_option maxHeartbeats 4000000 in
theorem tX11_first {g : sp_G} {Ω : sp_Mem → Prop} {Q : sp_Qt} {F : Nat} {p : (Int32 × sp_Mem)} (hG : sp_Ok Ω) {M : sp_Mem} {a1 : Int32} {a2 : Int32} (h : fX11_first F M a1 a2 = some p) (hQ : Q (some (.int p.1)) p.2) : sp_Mt g Ω mX11_first 0 0 [.ref 103, .int a1, .int a2] M Q := by
  unfold fX11_first at h
  refine sp_Mt.of [some (.ref 103), some (.int a1), some (.int a2), none, none] (by decide) (by simp [sp_ent, Value.category]) rfl ?_
  refine sp_aload_n dX11_first_0 rfl rfl ?_
  refine sp_iconst (v := 0) dX11_first_1 (by decide) ?_
  refine sp_use (fun ho => ?_)
  have hs := hG.1 _ ho
  obtain ⟨M1, hM1, h⟩ := sp_do_e h
  refine sp_putI2 (RX11, TX11, 56) hG dX11_first_2 clX11 (j := 0) (by decide) tw_1215 rfl (Or.inl rfl) (wsI_103 hs) hM1 ?_
  refine sp_iload_n dX11_first_5 rfl rfl ?_
  refine sp_use (fun ho => ?_)
  have hs := hG.1 _ ho
  refine sp_cS (M1 := M1) (r := some (.int (fX11_isCell a1))) (st := []) [.int a1] [.int a1] [.int (fX11_isCell a1)] dX11_first_6 okX11_isCell tw_1415 tw_1416 (by decide) (by decide) rfl (Nat.le_of_ble_eq_true rfl) rfl rfl (fun Q hQ => tX11_isCell hG rfl hQ) ?_
  refine sp_if_eq (tgt := 22) dX11_first_9 (by decide) (fun hc2 => ?_) (fun hc2 => ?_)
  · have h := (if_pos hc2).symm.trans h
    refine sp_iconst (v := (-1)) dX11_first_22 (by decide) ?_
    cases h
    exact sp_iret dX11_first_23 (ty := .int) rfl rfl (fun _ => hQ)
  · have h := (if_neg hc2).symm.trans h
    refine sp_iload_n dX11_first_12 rfl rfl ?_
    refine sp_i2l dX11_first_13 ?_
    refine sp_lconst (v := 0) dX11_first_14 (by decide) ?_
    refine sp_lconst (v := 1) dX11_first_15 (by decide) ?_
    refine sp_cS (M1 := M1) (r := some (.int (fX11_in (Int32.toInt64 a2) 0 1))) (st := []) [.long (Int32.toInt64 a2), .long 0, .long 1] [.long 1, .long 0, .long (Int32.toInt64 a2)] [.int (fX11_in (Int32.toInt64 a2) 0 1)] dX11_first_16 okX11_in tw_1400 tw_1401 (by decide) (by decide) rfl (Nat.le_of_ble_eq_true rfl) rfl rfl (fun Q hQ => tX11_in hG rfl hQ) ?_
    refine sp_if_ne (tgt := 24) dX11_first_19 (by decide) (fun hc3 => ?_) (fun hc3 => ?_)
    · have h := (if_neg hc3).symm.trans h
      refine sp_aload_n dX11_first_24 rfl rfl ?_
      refine sp_bipush (v := 16) dX11_first_25 (by decide) ?_
      obtain ⟨M4, hM4, h⟩ := Option.bind_eq_some_iff.mp h
      refine sp_cV (M1 := M4) (r := none) (o := 103) (st := []) (c := 10) (RX11, TX11, 56) [.int 16] [.int 16, .ref 103] [] dX11_first_27 okX11_keepAll tw_1687 tw_1689 tw_71 (by decide) (by decide) rfl (Nat.le_of_ble_eq_true rfl) rfl rfl rfl rfl (wsI_103 hs) (fun Q hQ => tX11_keepAll hG hM4 hQ) ?_
      refine sp_iconst (v := 0) dX11_first_30 (by decide) ?_
      refine sp_istore_n [some (.ref 103), some (.int a1), some (.int a2), some (.int 0), none] dX11_first_31 rfl (by decide) rfl ?_
      refine sp_weak [true, true, true, true, false] [some (.ref 103), some (.int a1), some (.int a2), some (.int 0), none] rfl ?_
      refine tX11_first_l32 hG hQ (fun b10 b11 b12 M9 h => ?_) F _ _ _ _ h
      refine sp_weak [true, true, true, true, false] [some (.ref 103), some (.int b10), some (.int b11), some (.int b12), none] rfl ?_
      exact tX11_first_j57 hG hQ _ _ _ _ h
    · have h := (if_pos hc3).symm.trans h
      refine sp_iconst (v := (-1)) dX11_first_22 (by decide) ?_
      cases h
      exact sp_iret dX11_first_23 (ty := .int) rfl rfl (fun _ => hQ)
