def fX11_areGuarded_l5 (F : Nat) (M0 : sp_Mem) (kx : Int32 → Option Int32) : Nat → Int32 → Int32 → Int32 → Int32 → Option Int32
  | 0, _, _, _, _ => none
  | n + 1, a1, a2, a3, a4 =>
  if (sp_I M0 105 0) ≤ a4 then (kx a3) else (if a3 = 0 then ((fX11_areGuarded_l5 F M0 kx n) a1 a2 0 (a4 + 1)) else ((fX11_isLoose M0 a4).bind fun v3 => if v3 = 0 then ((fX11_areGuarded_l5 F M0 kx n) a1 a2 1 (a4 + 1)) else ((fX11_knownTo F M0 a4).bind fun v5 => (fX11_ones F (v5 &&& a1)).bind fun v6 => sp_do ((if v6 ≤ a2 then 0 else 1)) fun u8 => (fX11_areGuarded_l5 F M0 kx n) a1 a2 u8 (a4 + 1))))
def fX11_areGuarded (F : Nat) (M0 : sp_Mem) (a1 : Int32) (a2 : Int32) : Option Int32 :=
  fX11_areGuarded_l5 F M0 (fun b10 => (sp_b01 b10).bind fun _ => some b10) F a1 a2 1 0
set_option maxRecDepth 100000 in
set_option maxHeartbeats 4000000 in
theorem tX11_areGuarded_l5 {g : sp_G} {Ω : sp_Mem → Prop} {Q : sp_Qt} {F : Nat} {M0 : sp_Mem} {p : Int32} (hG : sp_Ok Ω)  {kx : Int32 → Option Int32} (hQ : Q (some (.int p)) M0) (hx : ∀ (a3 : Int32), kx a3 = some p → sp_Wp g Ω mX11_areGuarded 0 0 56 [none, none, none, some (.int a3), none] [] M0 Q) : ∀ (n : Nat) (a1 : Int32) (a2 : Int32) (a3 : Int32) (a4 : Int32), fX11_areGuarded_l5 F M0 kx n a1 a2 a3 a4 = some p → sp_Wp g Ω mX11_areGuarded 0 0 5 [some (.ref 103), some (.int a1), some (.int a2), some (.int a3), some (.int a4)] [] M0 Q := by
  intro n
  induction n with
  | zero =>
    intro a1 a2 a3 a4 h
    rw [fX11_areGuarded_l5] at h
    cases h
  | succ n ih =>
    intro a1 a2 a3 a4 h
    rw [fX11_areGuarded_l5] at h
    refine sp_iload dX11_areGuarded_5 rfl ?_
    refine sp_aload_n dX11_areGuarded_7 rfl rfl ?_
    refine sp_use (fun ho => ?_)
    have hs := hG.1 _ ho
    refine sp_getR (RX11, TX11, 56) dX11_areGuarded_8 clX11 (j := 3) (by decide) tw_1218 (wsI_103 hs) (Or.inr ⟨_, rfl⟩) (wsP_103_3 hs) ?_
    refine sp_iconst (v := 0) dX11_areGuarded_11 (by decide) ?_
    refine sp_iald2 (j := 0) dX11_areGuarded_12 (wsA_105 hs) (wsN_105 hs) rfl ?_
    refine sp_icmp_ge (tgt := 56) dX11_areGuarded_13 (by decide) (fun hc1 => ?_) (fun hc1 => ?_)
    · have h := (if_pos hc1).symm.trans h
      refine sp_weak [false, false, false, true, false] [none, none, none, some (.int a3), none] rfl ?_
      exact hx _ h
    · have h := (if_neg hc1).symm.trans h
      refine sp_iload_n dX11_areGuarded_16 rfl rfl ?_
      refine sp_if_eq (tgt := 48) dX11_areGuarded_17 (by decide) (fun hc2 => ?_) (fun hc2 => ?_)
      · have h := (if_pos hc2).symm.trans h
        refine sp_iconst (v := 0) dX11_areGuarded_48 (by decide) ?_
        refine sp_istore_n [some (.ref 103), some (.int a1), some (.int a2), some (.int 0), some (.int a4)] dX11_areGuarded_49 rfl (by decide) rfl ?_
        refine sp_iinc (v := (a4 + 1)) [some (.ref 103), some (.int a1), some (.int a2), some (.int 0), some (.int (a4 + 1))] dX11_areGuarded_50 rfl rfl (by decide) rfl ?_
        refine sp_goto (tgt := 5) dX11_areGuarded_53 (by decide) ?_
        refine sp_weak [true, true, true, true, true] [some (.ref 103), some (.int a1), some (.int a2), some (.int 0), some (.int (a4 + 1))] rfl ?_
        exact ih _ _ _ _ h
      · have h := (if_neg hc2).symm.trans h
        refine sp_aload_n dX11_areGuarded_20 rfl rfl ?_
        refine sp_iload dX11_areGuarded_21 rfl ?_
        obtain ⟨v3, hv3, h⟩ := Option.bind_eq_some_iff.mp h
        refine sp_cV (M1 := M0) (r := some (.int v3)) (o := 103) (st := []) (c := 10) (RX11, TX11, 56) [.int a4] [.int a4, .ref 103] [.int v3] dX11_areGuarded_23 okX11_isLoose tw_1428 tw_1430 tw_31 (by decide) (by decide) rfl (Nat.le_of_ble_eq_true rfl) rfl rfl rfl rfl (wsI_103 hs) (fun Q hQ => tX11_isLoose hG hv3 hQ) ?_
        refine sp_if_eq (tgt := 44) dX11_areGuarded_26 (by decide) (fun hc4 => ?_) (fun hc4 => ?_)
        · have h := (if_pos hc4).symm.trans h
          refine sp_iconst (v := 1) dX11_areGuarded_44 (by decide) ?_
          refine sp_goto (tgt := 49) dX11_areGuarded_45 (by decide) ?_
          refine sp_istore_n [some (.ref 103), some (.int a1), some (.int a2), some (.int 1), some (.int a4)] dX11_areGuarded_49 rfl (by decide) rfl ?_
          refine sp_iinc (v := (a4 + 1)) [some (.ref 103), some (.int a1), some (.int a2), some (.int 1), some (.int (a4 + 1))] dX11_areGuarded_50 rfl rfl (by decide) rfl ?_
          refine sp_goto (tgt := 5) dX11_areGuarded_53 (by decide) ?_
          refine sp_weak [true, true, true, true, true] [some (.ref 103), some (.int a1), some (.int a2), some (.int 1), some (.int (a4 + 1))] rfl ?_
          exact ih _ _ _ _ h
        · have h := (if_neg hc4).symm.trans h
          refine sp_aload_n dX11_areGuarded_29 rfl rfl ?_
          refine sp_iload dX11_areGuarded_30 rfl ?_
          obtain ⟨v5, hv5, h⟩ := Option.bind_eq_some_iff.mp h
          refine sp_cV (M1 := M0) (r := some (.int v5)) (o := 103) (st := []) (c := 10) (RX11, TX11, 56) [.int a4] [.int a4, .ref 103] [.int v5] dX11_areGuarded_32 okX11_knownTo tw_1466 tw_1468 tw_38 (by decide) (by decide) rfl (Nat.le_of_ble_eq_true rfl) rfl rfl rfl rfl (wsI_103 hs) (fun Q hQ => tX11_knownTo hG hv5 hQ) ?_
          refine sp_iload_n dX11_areGuarded_35 rfl rfl ?_
          refine sp_iand dX11_areGuarded_36 ?_
          obtain ⟨v6, hv6, h⟩ := Option.bind_eq_some_iff.mp h
          refine sp_cS (M1 := M0) (r := some (.int v6)) (st := []) [.int (v5 &&& a1)] [.int (v5 &&& a1)] [.int v6] dX11_areGuarded_37 okX11_ones tw_1793 tw_1794 (by decide) (by decide) rfl (Nat.le_of_ble_eq_true rfl) rfl rfl (fun Q hQ => tX11_ones hG hv6 hQ) ?_
          refine sp_iload_n dX11_areGuarded_40 rfl rfl ?_
          suffices hj : sp_Wp g Ω mX11_areGuarded 0 0 49 [some (.ref 103), some (.int a1), some (.int a2), none, some (.int a4)] [.int (if v6 ≤ a2 then 0 else 1)] M0 Q by
            refine sp_icmp_le (tgt := 48) dX11_areGuarded_41 (by decide) (fun hc7 => ?_) (fun hc7 => ?_)
            · refine sp_iconst (v := 0) dX11_areGuarded_48 (by decide) ?_
              refine sp_weak [true, true, true, false, true] [some (.ref 103), some (.int a1), some (.int a2), none, some (.int a4)] rfl ?_
              simp only [if_pos hc7] at hj
              exact hj
            · refine sp_iconst (v := 1) dX11_areGuarded_44 (by decide) ?_
              refine sp_goto (tgt := 49) dX11_areGuarded_45 (by decide) ?_
              refine sp_weak [true, true, true, false, true] [some (.ref 103), some (.int a1), some (.int a2), none, some (.int a4)] rfl ?_
              simp only [if_neg hc7] at hj
              exact hj
          obtain ⟨u8, hu8, h⟩ := sp_do_e h
          refine sp_topi hu8 ?_
          refine sp_istore_n [some (.ref 103), some (.int a1), some (.int a2), some (.int u8), some (.int a4)] dX11_areGuarded_49 rfl (by decide) rfl ?_
          refine sp_iinc (v := (a4 + 1)) [some (.ref 103), some (.int a1), some (.int a2), some (.int u8), some (.int (a4 + 1))] dX11_areGuarded_50 rfl rfl (by decide) rfl ?_
          refine sp_goto (tgt := 5) dX11_areGuarded_53 (by decide) ?_
          refine sp_weak [true, true, true, true, true] [some (.ref 103), some (.int a1), some (.int a2), some (.int u8), some (.int (a4 + 1))] rfl ?_
          exact ih _ _ _ _ h
set_option maxRecDepth 100000 in
set_option maxHeartbeats 4000000 in
theorem tX11_areGuarded {g : sp_G} {Ω : sp_Mem → Prop} {Q : sp_Qt} {F : Nat} {M0 : sp_Mem} {p : Int32} (hG : sp_Ok Ω) {a1 : Int32} {a2 : Int32} (h : fX11_areGuarded F M0 a1 a2 = some p) (hQ : Q (some (.int p)) M0) : sp_Mt g Ω mX11_areGuarded 0 0 [.ref 103, .int a1, .int a2] M0 Q := by
  unfold fX11_areGuarded at h
  refine sp_Mt.of [some (.ref 103), some (.int a1), some (.int a2), none, none] (by decide) (by simp [sp_ent, Value.category]) rfl ?_
  refine sp_iconst (v := 1) dX11_areGuarded_0 (by decide) ?_
  refine sp_istore_n [some (.ref 103), some (.int a1), some (.int a2), some (.int 1), none] dX11_areGuarded_1 rfl (by decide) rfl ?_
  refine sp_iconst (v := 0) dX11_areGuarded_2 (by decide) ?_
  refine sp_istore [some (.ref 103), some (.int a1), some (.int a2), some (.int 1), some (.int 0)] dX11_areGuarded_3 (by decide) rfl ?_
  refine sp_weak [true, true, true, true, true] [some (.ref 103), some (.int a1), some (.int a2), some (.int 1), some (.int 0)] rfl ?_
  refine tX11_areGuarded_l5 hG hQ (fun b10 h => ?_) F _ _ _ _ h
  refine sp_iload_n dX11_areGuarded_56 rfl rfl ?_
  obtain ⟨_, hz11, h⟩ := Option.bind_eq_some_iff.mp h
  cases h
  exact sp_iret dX11_areGuarded_57 (ty := .boolean) rfl (sp_nz (sp_b01_e hz11)) (fun _ => hQ)
def fX11_guard_j90 (F : Nat) (kb : Int32 → Int32 → Int32 → Int32 → Int32 → sp_Mem → Option (Int32 × sp_Mem)) (kx : Int32 → Int32 → Int32 → sp_Mem → Option (Int32 × sp_Mem)) (a1 : Int32) (a2 : Int32) (a3 : Int32) (a5 : Int32) (a6 : Int32) (s0 : Int32) (M : sp_Mem) : Option (Int32 × sp_Mem) :=
  if a6 = 0 then (kb a1 a2 a3 s0 (a5 + 1) M) else ((fX11_ones F a5).bind fun v9 => kb a1 a2 v9 s0 (a5 + 1) M)
def fX11_guard_j76 (F : Nat) (kb : Int32 → Int32 → Int32 → Int32 → Int32 → sp_Mem → Option (Int32 × sp_Mem)) (kx : Int32 → Int32 → Int32 → sp_Mem → Option (Int32 × sp_Mem)) (a1 : Int32) (a2 : Int32) (a3 : Int32) (a4 : Int32) (a5 : Int32) (s0 : Int32) (M : sp_Mem) : Option (Int32 × sp_Mem) :=
  fX11_guard_j90 F kb kx a1 a2 a3 a5 s0 (if s0 = 0 then a4 else a5) M
def fX11_guard_j75 (F : Nat) (kb : Int32 → Int32 → Int32 → Int32 → Int32 → sp_Mem → Option (Int32 × sp_Mem)) (kx : Int32 → Int32 → Int32 → sp_Mem → Option (Int32 × sp_Mem)) (a1 : Int32) (a2 : Int32) (a3 : Int32) (a4 : Int32) (a5 : Int32) (M : sp_Mem) : Option (Int32 × sp_Mem) :=
  fX11_guard_j76 F kb kx a1 a2 a3 a4 a5 0 M
def fX11_guard_l39 (F : Nat) (kx : Int32 → Int32 → Int32 → sp_Mem → Option (Int32 × sp_Mem)) : Nat → Int32 → Int32 → Int32 → Int32 → Int32 → sp_Mem → Option (Int32 × sp_Mem)
  | 0, _, _, _, _, _, _ => none
  | n + 1, a1, a2, a3, a4, a5, M =>
  if (1 <<< ((sp_I M 105 1) &&& 31)) ≤ a5 then (kx a2 a3 a4 M) else ((fX11_ones F a5).bind fun v5 => if a3 ≤ v5 then (fX11_guard_j75 F (fX11_guard_l39 F kx n) kx a1 a2 a3 a4 a5 M) else ((fX11_areGuarded F M a5 a1).bind fun v10 => fX11_guard_j76 F (fX11_guard_l39 F kx n) kx a1 a2 a3 a4 a5 (if v10 = 0 then 0 else 1) M))
def fX11_guard (F : Nat) (M : sp_Mem) (a1 : Int32) (a2 : Int32) : Option (Int32 × sp_Mem) :=
  sp_do (sp_setI M 103 0 0) fun M1 => if (fX11_in (Int32.toInt64 a1) 0 4) = 0 then (some ((-1), M1)) else (if (fX11_in (Int32.toInt64 a2) 0 1) = 0 then (some ((-1), M1)) else (fX11_guard_l39 F (fun b13 b14 b15 M12 => some ((if b15 = (-1) then b15 else (if b13 = 1 then b15 else b14)), M12)) F a1 a2 100000000 (-1) 0 M1))
set_option maxRecDepth 100000 in
set_option maxHeartbeats 4000000 in
theorem tX11_guard_j90 {g : sp_G} {Ω : sp_Mem → Prop} {Q : sp_Qt} {F : Nat} {p : (Int32 × sp_Mem)} (hG : sp_Ok Ω)  {kb : Int32 → Int32 → Int32 → Int32 → Int32 → sp_Mem → Option (Int32 × sp_Mem)} {kx : Int32 → Int32 → Int32 → sp_Mem → Option (Int32 × sp_Mem)} (hQ : Q (some (.int p.1)) p.2) (hb : ∀ (a1 : Int32) (a2 : Int32) (a3 : Int32) (a4 : Int32) (a5 : Int32) (M : sp_Mem), kb a1 a2 a3 a4 a5 M = some p → sp_Wp g Ω mX11_guard 0 0 39 [some (.ref 103), some (.int a1), some (.int a2), some (.int a3), some (.int a4), some (.int a5), none] [] M Q) (hx : ∀ (a2 : Int32) (a3 : Int32) (a4 : Int32) (M : sp_Mem), kx a2 a3 a4 M = some p → sp_Wp g Ω mX11_guard 0 0 113 [none, none, some (.int a2), some (.int a3), some (.int a4), none, none] [] M Q) (a1 : Int32) (a2 : Int32) (a3 : Int32) (a5 : Int32) (a6 : Int32) (s0 : Int32) (M : sp_Mem) (h : fX11_guard_j90 F kb kx a1 a2 a3 a5 a6 s0 M = some p) : sp_Wp g Ω mX11_guard 0 0 90 [some (.ref 103), some (.int a1), some (.int a2), some (.int a3), none, some (.int a5), some (.int a6)] [.int s0] M Q := by
  unfold fX11_guard_j90 at h
  refine sp_istore [some (.ref 103), some (.int a1), some (.int a2), some (.int a3), some (.int s0), some (.int a5), some (.int a6)] dX11_guard_90 (by decide) rfl ?_
  refine sp_iload dX11_guard_92 rfl ?_
  refine sp_if_eq (tgt := 105) dX11_guard_94 (by decide) (fun hc8 => ?_) (fun hc8 => ?_)
  · have h := (if_pos hc8).symm.trans h
    refine sp_iload_n dX11_guard_105 rfl rfl ?_
    refine sp_istore_n [some (.ref 103), some (.int a1), some (.int a2), some (.int a3), some (.int s0), some (.int a5), some (.int a6)] dX11_guard_106 rfl (by decide) rfl ?_
    refine sp_iinc (v := (a5 + 1)) [some (.ref 103), some (.int a1), some (.int a2), some (.int a3), some (.int s0), some (.int (a5 + 1)), some (.int a6)] dX11_guard_107 rfl rfl (by decide) rfl ?_
    refine sp_goto (tgt := 39) dX11_guard_110 (by decide) ?_
    refine sp_weak [true, true, true, true, true, true, false] [some (.ref 103), some (.int a1), some (.int a2), some (.int a3), some (.int s0), some (.int (a5 + 1)), none] rfl ?_
    exact hb _ _ _ _ _ _ h
  · have h := (if_neg hc8).symm.trans h
    refine sp_iload dX11_guard_97 rfl ?_
    refine sp_use (fun ho => ?_)
    have hs := hG.1 _ ho
    obtain ⟨v9, hv9, h⟩ := Option.bind_eq_some_iff.mp h
    refine sp_cS (M1 := M) (r := some (.int v9)) (st := []) [.int a5] [.int a5] [.int v9] dX11_guard_99 okX11_ones tw_1793 tw_1794 (by decide) (by decide) rfl (Nat.le_of_ble_eq_true rfl) rfl rfl (fun Q hQ => tX11_ones hG hv9 hQ) ?_
    refine sp_goto (tgt := 106) dX11_guard_102 (by decide) ?_
    refine sp_istore_n [some (.ref 103), some (.int a1), some (.int a2), some (.int v9), some (.int s0), some (.int a5), some (.int a6)] dX11_guard_106 rfl (by decide) rfl ?_
    refine sp_iinc (v := (a5 + 1)) [some (.ref 103), some (.int a1), some (.int a2), some (.int v9), some (.int s0), some (.int (a5 + 1)), some (.int a6)] dX11_guard_107 rfl rfl (by decide) rfl ?_
    refine sp_goto (tgt := 39) dX11_guard_110 (by decide) ?_
    refine sp_weak [true, true, true, true, true, true, false] [some (.ref 103), some (.int a1), some (.int a2), some (.int v9), some (.int s0), some (.int (a5 + 1)), none] rfl ?_
    exact hb _ _ _ _ _ _ h
set_option maxRecDepth 100000 in
set_option maxHeartbeats 4000000 in
theorem tX11_guard_j76 {g : sp_G} {Ω : sp_Mem → Prop} {Q : sp_Qt} {F : Nat} {p : (Int32 × sp_Mem)} (hG : sp_Ok Ω)  {kb : Int32 → Int32 → Int32 → Int32 → Int32 → sp_Mem → Option (Int32 × sp_Mem)} {kx : Int32 → Int32 → Int32 → sp_Mem → Option (Int32 × sp_Mem)} (hQ : Q (some (.int p.1)) p.2) (hb : ∀ (a1 : Int32) (a2 : Int32) (a3 : Int32) (a4 : Int32) (a5 : Int32) (M : sp_Mem), kb a1 a2 a3 a4 a5 M = some p → sp_Wp g Ω mX11_guard 0 0 39 [some (.ref 103), some (.int a1), some (.int a2), some (.int a3), some (.int a4), some (.int a5), none] [] M Q) (hx : ∀ (a2 : Int32) (a3 : Int32) (a4 : Int32) (M : sp_Mem), kx a2 a3 a4 M = some p → sp_Wp g Ω mX11_guard 0 0 113 [none, none, some (.int a2), some (.int a3), some (.int a4), none, none] [] M Q) (a1 : Int32) (a2 : Int32) (a3 : Int32) (a4 : Int32) (a5 : Int32) (s0 : Int32) (M : sp_Mem) (h : fX11_guard_j76 F kb kx a1 a2 a3 a4 a5 s0 M = some p) : sp_Wp g Ω mX11_guard 0 0 76 [some (.ref 103), some (.int a1), some (.int a2), some (.int a3), some (.int a4), some (.int a5), none] [.int s0] M Q := by
  unfold fX11_guard_j76 at h
  refine sp_istore [some (.ref 103), some (.int a1), some (.int a2), some (.int a3), some (.int a4), some (.int a5), some (.int s0)] dX11_guard_76 (by decide) rfl ?_
  refine sp_iload dX11_guard_78 rfl ?_
  suffices hj : sp_Wp g Ω mX11_guard 0 0 90 [some (.ref 103), some (.int a1), some (.int a2), some (.int a3), none, some (.int a5), some (.int s0)] [.int (if s0 = 0 then a4 else a5)] M Q by
    refine sp_if_eq (tgt := 88) dX11_guard_80 (by decide) (fun hc7 => ?_) (fun hc7 => ?_)
    · refine sp_iload dX11_guard_88 rfl ?_
      refine sp_weak [true, true, true, true, false, true, true] [some (.ref 103), some (.int a1), some (.int a2), some (.int a3), none, some (.int a5), some (.int s0)] rfl ?_
      simp only [if_pos hc7] at hj
      exact hj
    · refine sp_iload dX11_guard_83 rfl ?_
      refine sp_goto (tgt := 90) dX11_guard_85 (by decide) ?_
      refine sp_weak [true, true, true, true, false, true, true] [some (.ref 103), some (.int a1), some (.int a2), some (.int a3), none, some (.int a5), some (.int s0)] rfl ?_
      simp only [if_neg hc7] at hj
      exact hj
  refine sp_weak [true, true, true, true, false, true, true] [some (.ref 103), some (.int a1), some (.int a2), some (.int a3), none, some (.int a5), some (.int s0)] rfl ?_
  exact tX11_guard_j90 hG hQ hb hx _ _ _ _ _ _ _ h
set_option maxRecDepth 100000 in
set_option maxHeartbeats 4000000 in
theorem tX11_guard_j75 {g : sp_G} {Ω : sp_Mem → Prop} {Q : sp_Qt} {F : Nat} {p : (Int32 × sp_Mem)} (hG : sp_Ok Ω)  {kb : Int32 → Int32 → Int32 → Int32 → Int32 → sp_Mem → Option (Int32 × sp_Mem)} {kx : Int32 → Int32 → Int32 → sp_Mem → Option (Int32 × sp_Mem)} (hQ : Q (some (.int p.1)) p.2) (hb : ∀ (a1 : Int32) (a2 : Int32) (a3 : Int32) (a4 : Int32) (a5 : Int32) (M : sp_Mem), kb a1 a2 a3 a4 a5 M = some p → sp_Wp g Ω mX11_guard 0 0 39 [some (.ref 103), some (.int a1), some (.int a2), some (.int a3), some (.int a4), some (.int a5), none] [] M Q) (hx : ∀ (a2 : Int32) (a3 : Int32) (a4 : Int32) (M : sp_Mem), kx a2 a3 a4 M = some p → sp_Wp g Ω mX11_guard 0 0 113 [none, none, some (.int a2), some (.int a3), some (.int a4), none, none] [] M Q) (a1 : Int32) (a2 : Int32) (a3 : Int32) (a4 : Int32) (a5 : Int32) (M : sp_Mem) (h : fX11_guard_j75 F kb kx a1 a2 a3 a4 a5 M = some p) : sp_Wp g Ω mX11_guard 0 0 75 [some (.ref 103), some (.int a1), some (.int a2), some (.int a3), some (.int a4), some (.int a5), none] [] M Q := by
  unfold fX11_guard_j75 at h
  refine sp_iconst (v := 0) dX11_guard_75 (by decide) ?_
  refine sp_weak [true, true, true, true, true, true, false] [some (.ref 103), some (.int a1), some (.int a2), some (.int a3), some (.int a4), some (.int a5), none] rfl ?_
  exact tX11_guard_j76 hG hQ hb hx _ _ _ _ _ _ _ h
set_option maxRecDepth 100000 in
set_option maxHeartbeats 4000000 in
theorem tX11_guard_l39 {g : sp_G} {Ω : sp_Mem → Prop} {Q : sp_Qt} {F : Nat} {p : (Int32 × sp_Mem)} (hG : sp_Ok Ω)  {kx : Int32 → Int32 → Int32 → sp_Mem → Option (Int32 × sp_Mem)} (hQ : Q (some (.int p.1)) p.2) (hx : ∀ (a2 : Int32) (a3 : Int32) (a4 : Int32) (M : sp_Mem), kx a2 a3 a4 M = some p → sp_Wp g Ω mX11_guard 0 0 113 [none, none, some (.int a2), some (.int a3), some (.int a4), none, none] [] M Q) : ∀ (n : Nat) (a1 : Int32) (a2 : Int32) (a3 : Int32) (a4 : Int32) (a5 : Int32) (M : sp_Mem), fX11_guard_l39 F kx n a1 a2 a3 a4 a5 M = some p → sp_Wp g Ω mX11_guard 0 0 39 [some (.ref 103), some (.int a1), some (.int a2), some (.int a3), some (.int a4), some (.int a5), none] [] M Q := by
  intro n
  induction n with
  | zero =>
    intro a1 a2 a3 a4 a5 M h
    rw [fX11_guard_l39] at h
    cases h
  | succ n ih =>
    intro a1 a2 a3 a4 a5 M h
    rw [fX11_guard_l39] at h
    refine sp_iload dX11_guard_39 rfl ?_
    refine sp_iconst (v := 1) dX11_guard_41 (by decide) ?_
    refine sp_aload_n dX11_guard_42 rfl rfl ?_
    refine sp_use (fun ho => ?_)
    have hs := hG.1 _ ho
    refine sp_getR (RX11, TX11, 56) dX11_guard_43 clX11 (j := 3) (by decide) tw_1218 (wsI_103 hs) (Or.inr ⟨_, rfl⟩) (wsP_103_3 hs) ?_
    refine sp_iconst (v := 1) dX11_guard_46 (by decide) ?_
    refine sp_iald2 (j := 1) dX11_guard_47 (wsA_105 hs) (wsN_105 hs) rfl ?_
    refine sp_ishl dX11_guard_48 ?_
    refine sp_icmp_ge (tgt := 113) dX11_guard_49 (by decide) (fun hc4 => ?_) (fun hc4 => ?_)
    · have h := (if_pos hc4).symm.trans h
      refine sp_weak [false, false, true, true, true, false, false] [none, none, some (.int a2), some (.int a3), some (.int a4), none, none] rfl ?_
      exact hx _ _ _ _ h
    · have h := (if_neg hc4).symm.trans h
      refine sp_iload dX11_guard_52 rfl ?_
      obtain ⟨v5, hv5, h⟩ := Option.bind_eq_some_iff.mp h
      refine sp_cS (M1 := M) (r := some (.int v5)) (st := []) [.int a5] [.int a5] [.int v5] dX11_guard_54 okX11_ones tw_1793 tw_1794 (by decide) (by decide) rfl (Nat.le_of_ble_eq_true rfl) rfl rfl (fun Q hQ => tX11_ones hG hv5 hQ) ?_
      refine sp_iload_n dX11_guard_57 rfl rfl ?_
      refine sp_icmp_ge (tgt := 75) dX11_guard_58 (by decide) (fun hc6 => ?_) (fun hc6 => ?_)
      · have h := (if_pos hc6).symm.trans h
        refine sp_weak [true, true, true, true, true, true, false] [some (.ref 103), some (.int a1), some (.int a2), some (.int a3), some (.int a4), some (.int a5), none] rfl ?_
        exact tX11_guard_j75 hG hQ ih hx _ _ _ _ _ _ h
      · have h := (if_neg hc6).symm.trans h
        refine sp_aload_n dX11_guard_61 rfl rfl ?_
        refine sp_iload dX11_guard_62 rfl ?_
        refine sp_iload_n dX11_guard_64 rfl rfl ?_
        obtain ⟨v10, hv10, h⟩ := Option.bind_eq_some_iff.mp h
        refine sp_cV (M1 := M) (r := some (.int v10)) (o := 103) (st := []) (c := 10) (RX11, TX11, 56) [.int a5, .int a1] [.int a1, .int a5, .ref 103] [.int v10] dX11_guard_65 okX11_areGuarded tw_1816 tw_1818 tw_88 (by decide) (by decide) rfl (Nat.le_of_ble_eq_true rfl) rfl rfl rfl rfl (wsI_103 hs) (fun Q hQ => tX11_areGuarded hG hv10 hQ) ?_
        suffices hj : sp_Wp g Ω mX11_guard 0 0 76 [some (.ref 103), some (.int a1), some (.int a2), some (.int a3), some (.int a4), some (.int a5), none] [.int (if v10 = 0 then 0 else 1)] M Q by
          refine sp_if_eq (tgt := 75) dX11_guard_68 (by decide) (fun hc11 => ?_) (fun hc11 => ?_)
          · refine sp_iconst (v := 0) dX11_guard_75 (by decide) ?_
            simp only [if_pos hc11] at hj
            exact hj
          · refine sp_iconst (v := 1) dX11_guard_71 (by decide) ?_
            refine sp_goto (tgt := 76) dX11_guard_72 (by decide) ?_
            simp only [if_neg hc11] at hj
            exact hj
        refine sp_weak [true, true, true, true, true, true, false] [some (.ref 103), some (.int a1), some (.int a2), some (.int a3), some (.int a4), some (.int a5), none] rfl ?_
        exact tX11_guard_j76 hG hQ ih hx _ _ _ _ _ _ _ h
set_option maxRecDepth 100000 in
set_option maxHeartbeats 4000000 in
theorem tX11_guard {g : sp_G} {Ω : sp_Mem → Prop} {Q : sp_Qt} {F : Nat} {p : (Int32 × sp_Mem)} (hG : sp_Ok Ω) {M : sp_Mem} {a1 : Int32} {a2 : Int32} (h : fX11_guard F M a1 a2 = some p) (hQ : Q (some (.int p.1)) p.2) : sp_Mt g Ω mX11_guard 0 0 [.ref 103, .int a1, .int a2] M Q := by
  unfold fX11_guard at h
  refine sp_Mt.of [some (.ref 103), some (.int a1), some (.int a2), none, none, none, none] (by decide) (by simp [sp_ent, Value.category]) rfl ?_
  refine sp_aload_n dX11_guard_0 rfl rfl ?_
  refine sp_iconst (v := 0) dX11_guard_1 (by decide) ?_
  refine sp_use (fun ho => ?_)
  have hs := hG.1 _ ho
  obtain ⟨M1, hM1, h⟩ := sp_do_e h
  refine sp_putI2 (RX11, TX11, 56) hG dX11_guard_2 clX11 (j := 0) (by decide) tw_1215 rfl (Or.inl rfl) (wsI_103 hs) hM1 ?_
  refine sp_iload_n dX11_guard_5 rfl rfl ?_
  refine sp_i2l dX11_guard_6 ?_
  refine sp_lconst (v := 0) dX11_guard_7 (by decide) ?_
  refine sp_ldc2 (v := 4) dX11_guard_8 tw_1715 ?_
  refine sp_use (fun ho => ?_)
  have hs := hG.1 _ ho
  refine sp_cS (M1 := M1) (r := some (.int (fX11_in (Int32.toInt64 a1) 0 4))) (st := []) [.long (Int32.toInt64 a1), .long 0, .long 4] [.long 4, .long 0, .long (Int32.toInt64 a1)] [.int (fX11_in (Int32.toInt64 a1) 0 4)] dX11_guard_11 okX11_in tw_1400 tw_1401 (by decide) (by decide) rfl (Nat.le_of_ble_eq_true rfl) rfl rfl (fun Q hQ => tX11_in hG rfl hQ) ?_
  refine sp_if_eq (tgt := 27) dX11_guard_14 (by decide) (fun hc2 => ?_) (fun hc2 => ?_)
  · have h := (if_pos hc2).symm.trans h
    refine sp_iconst (v := (-1)) dX11_guard_27 (by decide) ?_
    cases h
    exact sp_iret dX11_guard_28 (ty := .int) rfl rfl (fun _ => hQ)
  · have h := (if_neg hc2).symm.trans h
    refine sp_iload_n dX11_guard_17 rfl rfl ?_
    refine sp_i2l dX11_guard_18 ?_
    refine sp_lconst (v := 0) dX11_guard_19 (by decide) ?_
    refine sp_lconst (v := 1) dX11_guard_20 (by decide) ?_
    refine sp_cS (M1 := M1) (r := some (.int (fX11_in (Int32.toInt64 a2) 0 1))) (st := []) [.long (Int32.toInt64 a2), .long 0, .long 1] [.long 1, .long 0, .long (Int32.toInt64 a2)] [.int (fX11_in (Int32.toInt64 a2) 0 1)] dX11_guard_21 okX11_in tw_1400 tw_1401 (by decide) (by decide) rfl (Nat.le_of_ble_eq_true rfl) rfl rfl (fun Q hQ => tX11_in hG rfl hQ) ?_
    refine sp_if_ne (tgt := 29) dX11_guard_24 (by decide) (fun hc3 => ?_) (fun hc3 => ?_)
    · have h := (if_neg hc3).symm.trans h
      refine sp_ldcw (v := 100000000) dX11_guard_29 tw_1760 ?_
      refine sp_istore_n [some (.ref 103), some (.int a1), some (.int a2), some (.int 100000000), none, none, none] dX11_guard_32 rfl (by decide) rfl ?_
      refine sp_iconst (v := (-1)) dX11_guard_33 (by decide) ?_
      refine sp_istore [some (.ref 103), some (.int a1), some (.int a2), some (.int 100000000), some (.int (-1)), none, none] dX11_guard_34 (by decide) rfl ?_
      refine sp_iconst (v := 0) dX11_guard_36 (by decide) ?_
      refine sp_istore [some (.ref 103), some (.int a1), some (.int a2), some (.int 100000000), some (.int (-1)), some (.int 0), none] dX11_guard_37 (by decide) rfl ?_
      refine sp_weak [true, true, true, true, true, true, false] [some (.ref 103), some (.int a1), some (.int a2), some (.int 100000000), some (.int (-1)), some (.int 0), none] rfl ?_
      refine tX11_guard_l39 hG hQ (fun b13 b14 b15 M12 h => ?_) F _ _ _ _ _ _ h
      refine sp_iload dX11_guard_113 rfl ?_
      refine sp_iconst (v := (-1)) dX11_guard_115 (by decide) ?_
      suffices hj : sp_Wp g Ω mX11_guard 0 0 130 [none, none, none, none, none, none, none] [.int (if b15 = (-1) then b15 else (if b13 = 1 then b15 else b14))] M12 Q by
        refine sp_icmp_eq (tgt := 124) dX11_guard_116 (by decide) (fun hc16 => ?_) (fun hc16 => ?_)
        · refine sp_iload dX11_guard_124 rfl ?_
          refine sp_goto (tgt := 130) dX11_guard_126 (by decide) ?_
          refine sp_weak [false, false, false, false, false, false, false] [none, none, none, none, none, none, none] rfl ?_
          simp only [if_pos hc16] at hj
          exact hj
        · refine sp_iload_n dX11_guard_119 rfl rfl ?_
          refine sp_iconst (v := 1) dX11_guard_120 (by decide) ?_
          refine sp_icmp_ne (tgt := 129) dX11_guard_121 (by decide) (fun hc17 => ?_) (fun hc17 => ?_)
          · refine sp_iload_n dX11_guard_129 rfl rfl ?_
            refine sp_weak [false, false, false, false, false, false, false] [none, none, none, none, none, none, none] rfl ?_
            simp only [if_neg hc16, if_neg hc17] at hj
            exact hj
          · refine sp_iload dX11_guard_124 rfl ?_
            refine sp_goto (tgt := 130) dX11_guard_126 (by decide) ?_
            refine sp_weak [false, false, false, false, false, false, false] [none, none, none, none, none, none, none] rfl ?_
            simp only [if_neg hc16, if_pos hc17] at hj
            exact hj
      cases h
      exact sp_iret dX11_guard_130 (ty := .int) rfl rfl (fun _ => hQ)
    · have h := (if_pos hc3).symm.trans h
      refine sp_iconst (v := (-1)) dX11_guard_27 (by decide) ?_
      cases h
      exact sp_iret dX11_guard_28 (ty := .int) rfl rfl (fun _ => hQ)
def fX11_lessons_l33 (F : Nat) (kx : Int32 → sp_Mem → Option (Int32 × sp_Mem)) : Nat → Int32 → Int32 → Int32 → sp_Mem → Option (Int32 × sp_Mem)
  | 0, _, _, _, _ => none
  | n + 1, a1, a2, a3, M =>
  if (sp_I M 105 0) ≤ a3 then (kx a2 M) else ((fX11_knownTo F M a3).bind fun v5 => (fX11_ones F v5).bind fun v6 => sp_do ((a2 + (if (a1 - v6) ≤ 0 then 0 else (a1 - v6)))) fun u8 => (fX11_lessons_l33 F kx n) a1 u8 (a3 + 1) M)
def fX11_lessons (F : Nat) (M : sp_Mem) (a1 : Int32) : Option (Int32 × sp_Mem) :=
  sp_do (sp_setI M 103 0 0) fun M1 => if (fX11_in (Int32.toInt64 a1) 0 5) = 0 then (some ((-1), M1)) else (if a1 ≤ (sp_I M1 105 1) then (fX11_lessons_l33 F (fun b10 M9 => some (b10, M9)) F a1 0 0 M1) else (some ((-1), M1)))
set_option maxRecDepth 100000 in
set_option maxHeartbeats 4000000 in
theorem tX11_lessons_l33 {g : sp_G} {Ω : sp_Mem → Prop} {Q : sp_Qt} {F : Nat} {p : (Int32 × sp_Mem)} (hG : sp_Ok Ω)  {kx : Int32 → sp_Mem → Option (Int32 × sp_Mem)} (hQ : Q (some (.int p.1)) p.2) (hx : ∀ (a2 : Int32) (M : sp_Mem), kx a2 M = some p → sp_Wp g Ω mX11_lessons 0 0 75 [none, none, some (.int a2), none, none] [] M Q) : ∀ (n : Nat) (a1 : Int32) (a2 : Int32) (a3 : Int32) (M : sp_Mem), fX11_lessons_l33 F kx n a1 a2 a3 M = some p → sp_Wp g Ω mX11_lessons 0 0 33 [some (.ref 103), some (.int a1), some (.int a2), some (.int a3), none] [] M Q := by
  intro n
  induction n with
  | zero =>
    intro a1 a2 a3 M h
    rw [fX11_lessons_l33] at h
    cases h
  | succ n ih =>
    intro a1 a2 a3 M h
    rw [fX11_lessons_l33] at h
    refine sp_iload_n dX11_lessons_33 rfl rfl ?_
    refine sp_aload_n dX11_lessons_34 rfl rfl ?_
    refine sp_use (fun ho => ?_)
    have hs := hG.1 _ ho
    refine sp_getR (RX11, TX11, 56) dX11_lessons_35 clX11 (j := 3) (by decide) tw_1218 (wsI_103 hs) (Or.inr ⟨_, rfl⟩) (wsP_103_3 hs) ?_
    refine sp_iconst (v := 0) dX11_lessons_38 (by decide) ?_
    refine sp_iald2 (j := 0) dX11_lessons_39 (wsA_105 hs) (wsN_105 hs) rfl ?_
    refine sp_icmp_ge (tgt := 75) dX11_lessons_40 (by decide) (fun hc4 => ?_) (fun hc4 => ?_)
    · have h := (if_pos hc4).symm.trans h
      refine sp_weak [false, false, true, false, false] [none, none, some (.int a2), none, none] rfl ?_
      exact hx _ _ h
    · have h := (if_neg hc4).symm.trans h
      refine sp_iload_n dX11_lessons_43 rfl rfl ?_
      refine sp_aload_n dX11_lessons_44 rfl rfl ?_
      refine sp_iload_n dX11_lessons_45 rfl rfl ?_
      obtain ⟨v5, hv5, h⟩ := Option.bind_eq_some_iff.mp h
      refine sp_cV (M1 := M) (r := some (.int v5)) (o := 103) (st := [.int a1]) (c := 10) (RX11, TX11, 56) [.int a3] [.int a3, .ref 103, .int a1] [.int v5, .int a1] dX11_lessons_46 okX11_knownTo tw_1466 tw_1468 tw_38 (by decide) (by decide) rfl (Nat.le_of_ble_eq_true rfl) rfl rfl rfl rfl (wsI_103 hs) (fun Q hQ => tX11_knownTo hG hv5 hQ) ?_
      obtain ⟨v6, hv6, h⟩ := Option.bind_eq_some_iff.mp h
      refine sp_cS (M1 := M) (r := some (.int v6)) (st := [.int a1]) [.int v5] [.int v5, .int a1] [.int v6, .int a1] dX11_lessons_49 okX11_ones tw_1793 tw_1794 (by decide) (by decide) rfl (Nat.le_of_ble_eq_true rfl) rfl rfl (fun Q hQ => tX11_ones hG hv6 hQ) ?_
      refine sp_isub dX11_lessons_52 ?_
      refine sp_istore [some (.ref 103), some (.int a1), some (.int a2), some (.int a3), some (.int (a1 - v6))] dX11_lessons_53 (by decide) rfl ?_
      refine sp_iload_n dX11_lessons_55 rfl rfl ?_
      refine sp_iload dX11_lessons_56 rfl ?_
      suffices hj : sp_Wp g Ω mX11_lessons 0 0 67 [some (.ref 103), some (.int a1), none, some (.int a3), none] [.int (if (a1 - v6) ≤ 0 then 0 else (a1 - v6)), .int a2] M Q by
        refine sp_if_le (tgt := 66) dX11_lessons_58 (by decide) (fun hc7 => ?_) (fun hc7 => ?_)
        · refine sp_iconst (v := 0) dX11_lessons_66 (by decide) ?_
          refine sp_weak [true, true, false, true, false] [some (.ref 103), some (.int a1), none, some (.int a3), none] rfl ?_
          simp only [if_pos hc7] at hj
          exact hj
        · refine sp_iload dX11_lessons_61 rfl ?_
          refine sp_goto (tgt := 67) dX11_lessons_63 (by decide) ?_
          refine sp_weak [true, true, false, true, false] [some (.ref 103), some (.int a1), none, some (.int a3), none] rfl ?_
          simp only [if_neg hc7] at hj
          exact hj
      refine sp_iadd dX11_lessons_67 ?_
      obtain ⟨u8, hu8, h⟩ := sp_do_e h
      refine sp_topi hu8 ?_
      refine sp_istore_n [some (.ref 103), some (.int a1), some (.int u8), some (.int a3), none] dX11_lessons_68 rfl (by decide) rfl ?_
      refine sp_iinc (v := (a3 + 1)) [some (.ref 103), some (.int a1), some (.int u8), some (.int (a3 + 1)), none] dX11_lessons_69 rfl rfl (by decide) rfl ?_
      refine sp_goto (tgt := 33) dX11_lessons_72 (by decide) ?_
      refine sp_weak [true, true, true, true, false] [some (.ref 103), some (.int a1), some (.int u8), some (.int (a3 + 1)), none] rfl ?_
      exact ih _ _ _ _ h
set_option maxRecDepth 100000 in
set_option maxHeartbeats 4000000 in
theorem tX11_lessons {g : sp_G} {Ω : sp_Mem → Prop} {Q : sp_Qt} {F : Nat} {p : (Int32 × sp_Mem)} (hG : sp_Ok Ω) {M : sp_Mem} {a1 : Int32} (h : fX11_lessons F M a1 = some p) (hQ : Q (some (.int p.1)) p.2) : sp_Mt g Ω mX11_lessons 0 0 [.ref 103, .int a1] M Q := by
  unfold fX11_lessons at h
  refine sp_Mt.of [some (.ref 103), some (.int a1), none, none, none] (by decide) (by simp [sp_ent, Value.category]) rfl ?_
  refine sp_aload_n dX11_lessons_0 rfl rfl ?_
  refine sp_iconst (v := 0) dX11_lessons_1 (by decide) ?_
  refine sp_use (fun ho => ?_)
  have hs := hG.1 _ ho
  obtain ⟨M1, hM1, h⟩ := sp_do_e h
  refine sp_putI2 (RX11, TX11, 56) hG dX11_lessons_2 clX11 (j := 0) (by decide) tw_1215 rfl (Or.inl rfl) (wsI_103 hs) hM1 ?_
  refine sp_iload_n dX11_lessons_5 rfl rfl ?_
  refine sp_i2l dX11_lessons_6 ?_
  refine sp_lconst (v := 0) dX11_lessons_7 (by decide) ?_
  refine sp_ldc2 (v := 5) dX11_lessons_8 tw_1626 ?_
  refine sp_use (fun ho => ?_)
  have hs := hG.1 _ ho
  refine sp_cS (M1 := M1) (r := some (.int (fX11_in (Int32.toInt64 a1) 0 5))) (st := []) [.long (Int32.toInt64 a1), .long 0, .long 5] [.long 5, .long 0, .long (Int32.toInt64 a1)] [.int (fX11_in (Int32.toInt64 a1) 0 5)] dX11_lessons_11 okX11_in tw_1400 tw_1401 (by decide) (by decide) rfl (Nat.le_of_ble_eq_true rfl) rfl rfl (fun Q hQ => tX11_in hG rfl hQ) ?_
  refine sp_if_eq (tgt := 27) dX11_lessons_14 (by decide) (fun hc2 => ?_) (fun hc2 => ?_)
  · have h := (if_pos hc2).symm.trans h
    refine sp_iconst (v := (-1)) dX11_lessons_27 (by decide) ?_
    cases h
    exact sp_iret dX11_lessons_28 (ty := .int) rfl rfl (fun _ => hQ)
  · have h := (if_neg hc2).symm.trans h
    refine sp_iload_n dX11_lessons_17 rfl rfl ?_
    refine sp_aload_n dX11_lessons_18 rfl rfl ?_
    refine sp_getR (RX11, TX11, 56) dX11_lessons_19 clX11 (j := 3) (by decide) tw_1218 (wsI_103 hs) (Or.inr ⟨_, rfl⟩) (wsP_103_3 hs) ?_
    refine sp_iconst (v := 1) dX11_lessons_22 (by decide) ?_
    refine sp_iald2 (j := 1) dX11_lessons_23 (wsA_105 hs) (wsN_105 hs) rfl ?_
    refine sp_icmp_le (tgt := 29) dX11_lessons_24 (by decide) (fun hc3 => ?_) (fun hc3 => ?_)
    · have h := (if_pos hc3).symm.trans h
      refine sp_iconst (v := 0) dX11_lessons_29 (by decide) ?_
      refine sp_istore_n [some (.ref 103), some (.int a1), some (.int 0), none, none] dX11_lessons_30 rfl (by decide) rfl ?_
      refine sp_iconst (v := 0) dX11_lessons_31 (by decide) ?_
      refine sp_istore_n [some (.ref 103), some (.int a1), some (.int 0), some (.int 0), none] dX11_lessons_32 rfl (by decide) rfl ?_
      refine sp_weak [true, true, true, true, false] [some (.ref 103), some (.int a1), some (.int 0), some (.int 0), none] rfl ?_
      refine tX11_lessons_l33 hG hQ (fun b10 M9 h => ?_) F _ _ _ _ h
      refine sp_iload_n dX11_lessons_75 rfl rfl ?_
      cases h
      exact sp_iret dX11_lessons_76 (ty := .int) rfl rfl (fun _ => hQ)
    · have h := (if_neg hc3).symm.trans h
      refine sp_iconst (v := (-1)) dX11_lessons_27 (by decide) ?_
      cases h
      exact sp_iret dX11_lessons_28 (ty := .int) rfl rfl (fun _ => hQ)
def fX11_layDrift_l2 (F : Nat) (kx : Int32 → sp_Mem → Option sp_Mem) : Nat → Int32 → Int32 → Int32 → sp_Mem → Option sp_Mem
  | 0, _, _, _, _ => none
  | n + 1, a1, a2, a3, M =>
  if 25 ≤ a3 then (kx a2 M) else ((sp_ix 5480 (9 + a1)).bind fun j2 => if a3 = (sp_I M 105 j2) then ((sp_ix 25 a3).bind fun j6 => sp_do (sp_setL M 127 j6 1000000000000) fun M7 => (fX11_layDrift_l2 F kx n) a1 a2 (a3 + 1) M7) else ((sp_ix 25 a3).bind fun j4 => sp_do (sp_setL M 127 j4 0) fun M5 => (fX11_layDrift_l2 F kx n) a1 a2 (a3 + 1) M5))
def fX11_layDrift_l60 (F : Nat) (kx : Int32 → Int32 → Int32 → sp_Mem → Option sp_Mem) : Nat → Int32 → Int32 → Int32 → Int32 → sp_Mem → Option sp_Mem
  | 0, _, _, _, _, _ => none
  | n + 1, a2, a3, a4, a5, M =>
  if 25 ≤ a5 then (kx a2 a3 a4 M) else ((sp_ix 25 a5).bind fun j13 => sp_do (sp_setL M 128 j13 0) fun M14 => (fX11_layDrift_l60 F kx n) a2 a3 a4 (a5 + 1) M14)
def fX11_layDrift_l119 (F : Nat) (kx : Int32 → Int32 → Int32 → Int32 → Int64 → sp_Mem → Option sp_Mem) : Nat → Int32 → Int32 → Int32 → Int32 → Int64 → Int64 → Int32 → sp_Mem → Option sp_Mem
  | 0, _, _, _, _, _, _, _, _ => none
  | n + 1, a2, a3, a4, a5, a6, a8, a10, M =>
  if 5 ≤ a10 then (kx a2 a3 a4 a5 a8 M) else ((fX11_nextTo a5 a10).bind fun v25 => if v25 = (-1) then ((fX11_layDrift_l119 F kx n) a2 a3 a4 a5 a6 a8 (a10 + 1) M) else ((sp_ix 5480 (26 + v25)).bind fun j27 => if (sp_I M 105 j27) = 3 then ((fX11_layDrift_l119 F kx n) a2 a3 a4 a5 a6 a8 (a10 + 1) M) else ((sp_ix 25 v25).bind fun j29 => (sp_ix 25 v25).bind fun j30 => sp_do (sp_setL M 128 j30 ((sp_L M 128 j29) + a6)) fun M31 => (fX11_layDrift_l119 F kx n) a2 a3 a4 a5 a6 (a8 - a6) (a10 + 1) M31)))
def fX11_layDrift_l84 (F : Nat) (kx : Int32 → Int32 → Int32 → sp_Mem → Option sp_Mem) : Nat → Int32 → Int32 → Int32 → Int32 → sp_Mem → Option sp_Mem
  | 0, _, _, _, _, _ => none
  | n + 1, a2, a3, a4, a5, M =>
  if 25 ≤ a5 then (kx a2 a3 a4 M) else ((sp_ix 25 a5).bind fun j20 => sp_do ((((sp_L M 127 j20) * (Int32.toInt64 a3)) / 10)) fun u21 => (sp_ix 25 a5).bind fun j22 => sp_do ((sp_L M 127 j22)) fun u23 => fX11_layDrift_l119 F (fun b33 b34 b35 b36 b37 M32 => (sp_ix 25 b36).bind fun j38 => (sp_ix 25 b36).bind fun j39 => sp_do (sp_setL M32 128 j39 ((sp_L M32 128 j38) + b37)) fun M40 => (fX11_layDrift_l84 F kx n) b33 b34 b35 (b36 + 1) M40) F a2 a3 a4 a5 u21 u23 1 M)
def fX11_layDrift_l200 (F : Nat) (kx : Int32 → Int32 → Int32 → sp_Mem → Option sp_Mem) : Nat → Int32 → Int32 → Int32 → Int32 → sp_Mem → Option sp_Mem
  | 0, _, _, _, _, _ => none
  | n + 1, a2, a3, a4, a5, M =>
  if 25 ≤ a5 then (kx a2 a3 a4 M) else ((sp_ix 25 a5).bind fun j46 => (sp_ix 25 a5).bind fun j47 => sp_do (sp_setL M 127 j47 (sp_L M 128 j46)) fun M48 => (fX11_layDrift_l200 F kx n) a2 a3 a4 (a5 + 1) M48)
def fX11_layDrift_l51 (F : Nat) (kx : sp_Mem → Option sp_Mem) : Nat → Int32 → Int32 → Int32 → sp_Mem → Option sp_Mem
  | 0, _, _, _, _ => none
  | n + 1, a2, a3, a4, M =>
  if a2 ≤ a4 then (kx M) else (fX11_layDrift_l60 F (fun b16 b17 b18 M15 => fX11_layDrift_l84 F (fun b42 b43 b44 M41 => fX11_layDrift_l200 F (fun b50 b51 b52 M49 => (fX11_layDrift_l51 F kx n) b50 b51 (b52 + 1) M49) F b42 b43 b44 0 M41) F b16 b17 b18 0 M15) F a2 a3 a4 0 M)
def fX11_layDrift (F : Nat) (M : sp_Mem) (a1 : Int32) (a2 : Int32) : Option sp_Mem :=
  fX11_layDrift_l2 F (fun b9 M8 => sp_do ((sp_I M8 105 6)) fun u10 => fX11_layDrift_l51 F (fun M53 => some M53) F b9 u10 0 M8) F a1 a2 0 M
set_option maxRecDepth 100000 in
set_option maxHeartbeats 4000000 in
theorem tX11_layDrift_l2 {g : sp_G} {Ω : sp_Mem → Prop} {Q : sp_Qt} {F : Nat} {p : sp_Mem} (hG : sp_Ok Ω)  {kx : Int32 → sp_Mem → Option sp_Mem} (hQ : Q none p) (hx : ∀ (a2 : Int32) (M : sp_Mem), kx a2 M = some p → sp_Wp g Ω mX11_layDrift 0 0 40 [some (.ref 103), none, some (.int a2), none, none, none, none, none, none, none, none, none] [] M Q) : ∀ (n : Nat) (a1 : Int32) (a2 : Int32) (a3 : Int32) (M : sp_Mem), fX11_layDrift_l2 F kx n a1 a2 a3 M = some p → sp_Wp g Ω mX11_layDrift 0 0 2 [some (.ref 103), some (.int a1), some (.int a2), some (.int a3), none, none, none, none, none, none, none, none] [] M Q := by
  intro n
  induction n with
  | zero =>
    intro a1 a2 a3 M h
    rw [fX11_layDrift_l2] at h
    cases h
  | succ n ih =>
    intro a1 a2 a3 M h
    rw [fX11_layDrift_l2] at h
    refine sp_iload_n dX11_layDrift_2 rfl rfl ?_
    refine sp_bipush (v := 25) dX11_layDrift_3 (by decide) ?_
    refine sp_icmp_ge (tgt := 40) dX11_layDrift_5 (by decide) (fun hc1 => ?_) (fun hc1 => ?_)
    · have h := (if_pos hc1).symm.trans h
      refine sp_weak [true, false, true, false, false, false, false, false, false, false, false, false] [some (.ref 103), none, some (.int a2), none, none, none, none, none, none, none, none, none] rfl ?_
      exact hx _ _ h
    · have h := (if_neg hc1).symm.trans h
      refine sp_aload_n dX11_layDrift_8 rfl rfl ?_
      refine sp_use (fun ho => ?_)
      have hs := hG.1 _ ho
      refine sp_getR (RX11, TX11, 56) dX11_layDrift_9 clX11 (j := 44) (by decide) tw_1259 (wsI_103 hs) (Or.inr ⟨_, rfl⟩) (wsP_103_44 hs) ?_
      refine sp_iload_n dX11_layDrift_12 rfl rfl ?_
      refine sp_iload_n dX11_layDrift_13 rfl rfl ?_
      refine sp_aload_n dX11_layDrift_14 rfl rfl ?_
      refine sp_getR (RX11, TX11, 56) dX11_layDrift_15 clX11 (j := 3) (by decide) tw_1218 (wsI_103 hs) (Or.inr ⟨_, rfl⟩) (wsP_103_3 hs) ?_
      refine sp_bipush (v := 9) dX11_layDrift_18 (by decide) ?_
      refine sp_iload_n dX11_layDrift_20 rfl rfl ?_
      refine sp_iadd dX11_layDrift_21 ?_
      obtain ⟨j2, hj2, h⟩ := Option.bind_eq_some_iff.mp h
      refine sp_iald2 (j := j2) dX11_layDrift_22 (wsA_105 hs) (wsN_105 hs) hj2 ?_
      refine sp_icmp_ne (tgt := 32) dX11_layDrift_23 (by decide) (fun hc3 => ?_) (fun hc3 => ?_)
      · have h := (if_neg hc3).symm.trans h
        refine sp_lconst (v := 0) dX11_layDrift_32 (by decide) ?_
        obtain ⟨j4, hj4, h⟩ := Option.bind_eq_some_iff.mp h
        obtain ⟨M5, hM5, h⟩ := sp_do_e h
        refine sp_last2 (j := j4) hG dX11_layDrift_33 (wsA_127 hs) (wsN_127 hs) hj4 hM5 ?_
        refine sp_iinc (v := (a3 + 1)) [some (.ref 103), some (.int a1), some (.int a2), some (.int (a3 + 1)), none, none, none, none, none, none, none, none] dX11_layDrift_34 rfl rfl (by decide) rfl ?_
        refine sp_goto (tgt := 2) dX11_layDrift_37 (by decide) ?_
        refine sp_weak [true, true, true, true, false, false, false, false, false, false, false, false] [some (.ref 103), some (.int a1), some (.int a2), some (.int (a3 + 1)), none, none, none, none, none, none, none, none] rfl ?_
        exact ih _ _ _ _ h
      · have h := (if_pos hc3).symm.trans h
        refine sp_ldc2 (v := 1000000000000) dX11_layDrift_26 tw_1832 ?_
        refine sp_goto (tgt := 33) dX11_layDrift_29 (by decide) ?_
        obtain ⟨j6, hj6, h⟩ := Option.bind_eq_some_iff.mp h
        obtain ⟨M7, hM7, h⟩ := sp_do_e h
        refine sp_last2 (j := j6) hG dX11_layDrift_33 (wsA_127 hs) (wsN_127 hs) hj6 hM7 ?_
        refine sp_iinc (v := (a3 + 1)) [some (.ref 103), some (.int a1), some (.int a2), some (.int (a3 + 1)), none, none, none, none, none, none, none, none] dX11_layDrift_34 rfl rfl (by decide) rfl ?_
        refine sp_goto (tgt := 2) dX11_layDrift_37 (by decide) ?_
        refine sp_weak [true, true, true, true, false, false, false, false, false, false, false, false] [some (.ref 103), some (.int a1), some (.int a2), some (.int (a3 + 1)), none, none, none, none, none, none, none, none] rfl ?_
        exact ih _ _ _ _ h
set_option maxRecDepth 100000 in
set_option maxHeartbeats 4000000 in
theorem tX11_layDrift_l60 {g : sp_G} {Ω : sp_Mem → Prop} {Q : sp_Qt} {F : Nat} {p : sp_Mem} (hG : sp_Ok Ω)  {kx : Int32 → Int32 → Int32 → sp_Mem → Option sp_Mem} (hQ : Q none p) (hx : ∀ (a2 : Int32) (a3 : Int32) (a4 : Int32) (M : sp_Mem), kx a2 a3 a4 M = some p → sp_Wp g Ω mX11_layDrift 0 0 81 [some (.ref 103), none, some (.int a2), some (.int a3), some (.int a4), none, none, none, none, none, none, none] [] M Q) : ∀ (n : Nat) (a2 : Int32) (a3 : Int32) (a4 : Int32) (a5 : Int32) (M : sp_Mem), fX11_layDrift_l60 F kx n a2 a3 a4 a5 M = some p → sp_Wp g Ω mX11_layDrift 0 0 60 [some (.ref 103), none, some (.int a2), some (.int a3), some (.int a4), some (.int a5), none, none, none, none, none, none] [] M Q := by
  intro n
  induction n with
  | zero =>
    intro a2 a3 a4 a5 M h
    rw [fX11_layDrift_l60] at h
    cases h
  | succ n ih =>
    intro a2 a3 a4 a5 M h
    rw [fX11_layDrift_l60] at h
    refine sp_iload dX11_layDrift_60 rfl ?_
    refine sp_bipush (v := 25) dX11_layDrift_62 (by decide) ?_
    refine sp_icmp_ge (tgt := 81) dX11_layDrift_64 (by decide) (fun hc12 => ?_) (fun hc12 => ?_)
    · have h := (if_pos hc12).symm.trans h
      refine sp_weak [true, false, true, true, true, false, false, false, false, false, false, false] [some (.ref 103), none, some (.int a2), some (.int a3), some (.int a4), none, none, none, none, none, none, none] rfl ?_
      exact hx _ _ _ _ h
    · have h := (if_neg hc12).symm.trans h
      refine sp_aload_n dX11_layDrift_67 rfl rfl ?_
      refine sp_use (fun ho => ?_)
      have hs := hG.1 _ ho
      refine sp_getR (RX11, TX11, 56) dX11_layDrift_68 clX11 (j := 45) (by decide) tw_1260 (wsI_103 hs) (Or.inr ⟨_, rfl⟩) (wsP_103_45 hs) ?_
      refine sp_iload dX11_layDrift_71 rfl ?_
      refine sp_lconst (v := 0) dX11_layDrift_73 (by decide) ?_
      obtain ⟨j13, hj13, h⟩ := Option.bind_eq_some_iff.mp h
      obtain ⟨M14, hM14, h⟩ := sp_do_e h
      refine sp_last2 (j := j13) hG dX11_layDrift_74 (wsA_128 hs) (wsN_128 hs) hj13 hM14 ?_
      refine sp_iinc (v := (a5 + 1)) [some (.ref 103), none, some (.int a2), some (.int a3), some (.int a4), some (.int (a5 + 1)), none, none, none, none, none, none] dX11_layDrift_75 rfl rfl (by decide) rfl ?_
      refine sp_goto (tgt := 60) dX11_layDrift_78 (by decide) ?_
      refine sp_weak [true, false, true, true, true, true, false, false, false, false, false, false] [some (.ref 103), none, some (.int a2), some (.int a3), some (.int a4), some (.int (a5 + 1)), none, none, none, none, none, none] rfl ?_
      exact ih _ _ _ _ _ h
set_option maxRecDepth 100000 in
set_option maxHeartbeats 4000000 in
theorem tX11_layDrift_l119 {g : sp_G} {Ω : sp_Mem → Prop} {Q : sp_Qt} {F : Nat} {p : sp_Mem} (hG : sp_Ok Ω)  {kx : Int32 → Int32 → Int32 → Int32 → Int64 → sp_Mem → Option sp_Mem} (hQ : Q none p) (hx : ∀ (a2 : Int32) (a3 : Int32) (a4 : Int32) (a5 : Int32) (a8 : Int64) (M : sp_Mem), kx a2 a3 a4 a5 a8 M = some p → sp_Wp g Ω mX11_layDrift 0 0 179 [some (.ref 103), none, some (.int a2), some (.int a3), some (.int a4), some (.int a5), none, none, some (.long a8), none, none, none] [] M Q) : ∀ (n : Nat) (a2 : Int32) (a3 : Int32) (a4 : Int32) (a5 : Int32) (a6 : Int64) (a8 : Int64) (a10 : Int32) (M : sp_Mem), fX11_layDrift_l119 F kx n a2 a3 a4 a5 a6 a8 a10 M = some p → sp_Wp g Ω mX11_layDrift 0 0 119 [some (.ref 103), none, some (.int a2), some (.int a3), some (.int a4), some (.int a5), some (.long a6), none, some (.long a8), none, some (.int a10), none] [] M Q := by
  intro n
  induction n with
  | zero =>
    intro a2 a3 a4 a5 a6 a8 a10 M h
    rw [fX11_layDrift_l119] at h
    cases h
  | succ n ih =>
    intro a2 a3 a4 a5 a6 a8 a10 M h
    rw [fX11_layDrift_l119] at h
    refine sp_iload dX11_layDrift_119 rfl ?_
    refine sp_iconst (v := 5) dX11_layDrift_121 (by decide) ?_
    refine sp_icmp_ge (tgt := 179) dX11_layDrift_122 (by decide) (fun hc24 => ?_) (fun hc24 => ?_)
    · have h := (if_pos hc24).symm.trans h
      refine sp_weak [true, false, true, true, true, true, false, false, true, false, false, false] [some (.ref 103), none, some (.int a2), some (.int a3), some (.int a4), some (.int a5), none, none, some (.long a8), none, none, none] rfl ?_
      exact hx _ _ _ _ _ _ h
    · have h := (if_neg hc24).symm.trans h
      refine sp_iload dX11_layDrift_125 rfl ?_
      refine sp_iload dX11_layDrift_127 rfl ?_
      refine sp_use (fun ho => ?_)
      have hs := hG.1 _ ho
      obtain ⟨v25, hv25, h⟩ := Option.bind_eq_some_iff.mp h
      refine sp_cS (M1 := M) (r := some (.int v25)) (st := []) [.int a5, .int a10] [.int a10, .int a5] [.int v25] dX11_layDrift_129 okX11_nextTo tw_1720 tw_1721 (by decide) (by decide) rfl (Nat.le_of_ble_eq_true rfl) rfl rfl (fun Q hQ => tX11_nextTo hG hv25 hQ) ?_
      refine sp_istore [some (.ref 103), none, some (.int a2), some (.int a3), some (.int a4), some (.int a5), some (.long a6), none, some (.long a8), none, some (.int a10), some (.int v25)] dX11_layDrift_132 (by decide) rfl ?_
      refine sp_iload dX11_layDrift_134 rfl ?_
      refine sp_iconst (v := (-1)) dX11_layDrift_136 (by decide) ?_
      refine sp_icmp_eq (tgt := 173) dX11_layDrift_137 (by decide) (fun hc26 => ?_) (fun hc26 => ?_)
      · have h := (if_pos hc26).symm.trans h
        refine sp_iinc (v := (a10 + 1)) [some (.ref 103), none, some (.int a2), some (.int a3), some (.int a4), some (.int a5), some (.long a6), none, some (.long a8), none, some (.int (a10 + 1)), some (.int v25)] dX11_layDrift_173 rfl rfl (by decide) rfl ?_
        refine sp_goto (tgt := 119) dX11_layDrift_176 (by decide) ?_
        refine sp_weak [true, false, true, true, true, true, true, false, true, false, true, false] [some (.ref 103), none, some (.int a2), some (.int a3), some (.int a4), some (.int a5), some (.long a6), none, some (.long a8), none, some (.int (a10 + 1)), none] rfl ?_
        exact ih _ _ _ _ _ _ _ _ h
      · have h := (if_neg hc26).symm.trans h
        refine sp_aload_n dX11_layDrift_140 rfl rfl ?_
        refine sp_getR (RX11, TX11, 56) dX11_layDrift_141 clX11 (j := 3) (by decide) tw_1218 (wsI_103 hs) (Or.inr ⟨_, rfl⟩) (wsP_103_3 hs) ?_
        refine sp_bipush (v := 26) dX11_layDrift_144 (by decide) ?_
        refine sp_iload dX11_layDrift_146 rfl ?_
        refine sp_iadd dX11_layDrift_148 ?_
        obtain ⟨j27, hj27, h⟩ := Option.bind_eq_some_iff.mp h
        refine sp_iald2 (j := j27) dX11_layDrift_149 (wsA_105 hs) (wsN_105 hs) hj27 ?_
        refine sp_iconst (v := 3) dX11_layDrift_150 (by decide) ?_
        refine sp_icmp_eq (tgt := 173) dX11_layDrift_151 (by decide) (fun hc28 => ?_) (fun hc28 => ?_)
        · have h := (if_pos hc28).symm.trans h
          refine sp_iinc (v := (a10 + 1)) [some (.ref 103), none, some (.int a2), some (.int a3), some (.int a4), some (.int a5), some (.long a6), none, some (.long a8), none, some (.int (a10 + 1)), some (.int v25)] dX11_layDrift_173 rfl rfl (by decide) rfl ?_
          refine sp_goto (tgt := 119) dX11_layDrift_176 (by decide) ?_
          refine sp_weak [true, false, true, true, true, true, true, false, true, false, true, false] [some (.ref 103), none, some (.int a2), some (.int a3), some (.int a4), some (.int a5), some (.long a6), none, some (.long a8), none, some (.int (a10 + 1)), none] rfl ?_
          exact ih _ _ _ _ _ _ _ _ h
        · have h := (if_neg hc28).symm.trans h
          refine sp_aload_n dX11_layDrift_154 rfl rfl ?_
          refine sp_getR (RX11, TX11, 56) dX11_layDrift_155 clX11 (j := 45) (by decide) tw_1260 (wsI_103 hs) (Or.inr ⟨_, rfl⟩) (wsP_103_45 hs) ?_
          refine sp_iload dX11_layDrift_158 rfl ?_
          refine sp_dup2 dX11_layDrift_160 rfl rfl ?_
          obtain ⟨j29, hj29, h⟩ := Option.bind_eq_some_iff.mp h
          refine sp_lald2 (j := j29) dX11_layDrift_161 (wsA_128 hs) (wsN_128 hs) hj29 ?_
          refine sp_lload dX11_layDrift_162 rfl ?_
          refine sp_ladd dX11_layDrift_164 ?_
          obtain ⟨j30, hj30, h⟩ := Option.bind_eq_some_iff.mp h
          obtain ⟨M31, hM31, h⟩ := sp_do_e h
          refine sp_last2 (j := j30) hG dX11_layDrift_165 (wsA_128 hs) (wsN_128 hs) hj30 hM31 ?_
          refine sp_lload dX11_layDrift_166 rfl ?_
          refine sp_lload dX11_layDrift_168 rfl ?_
          refine sp_lsub dX11_layDrift_170 ?_
          refine sp_lstore [some (.ref 103), none, some (.int a2), some (.int a3), some (.int a4), some (.int a5), some (.long a6), none, some (.long (a8 - a6)), none, some (.int a10), some (.int v25)] dX11_layDrift_171 (by decide) rfl ?_
          refine sp_iinc (v := (a10 + 1)) [some (.ref 103), none, some (.int a2), some (.int a3), some (.int a4), some (.int a5), some (.long a6), none, some (.long (a8 - a6)), none, some (.int (a10 + 1)), some (.int v25)] dX11_layDrift_173 rfl rfl (by decide) rfl ?_
          refine sp_goto (tgt := 119) dX11_layDrift_176 (by decide) ?_
          refine sp_weak [true, false, true, true, true, true, true, false, true, false, true, false] [some (.ref 103), none, some (.int a2), some (.int a3), some (.int a4), some (.int a5), some (.long a6), none, some (.long (a8 - a6)), none, some (.int (a10 + 1)), none] rfl ?_
          exact ih _ _ _ _ _ _ _ _ h
set_option maxRecDepth 100000 in
set_option maxHeartbeats 4000000 in
theorem tX11_layDrift_l84 {g : sp_G} {Ω : sp_Mem → Prop} {Q : sp_Qt} {F : Nat} {p : sp_Mem} (hG : sp_Ok Ω)  {kx : Int32 → Int32 → Int32 → sp_Mem → Option sp_Mem} (hQ : Q none p) (hx : ∀ (a2 : Int32) (a3 : Int32) (a4 : Int32) (M : sp_Mem), kx a2 a3 a4 M = some p → sp_Wp g Ω mX11_layDrift 0 0 197 [some (.ref 103), none, some (.int a2), some (.int a3), some (.int a4), none, none, none, none, none, none, none] [] M Q) : ∀ (n : Nat) (a2 : Int32) (a3 : Int32) (a4 : Int32) (a5 : Int32) (M : sp_Mem), fX11_layDrift_l84 F kx n a2 a3 a4 a5 M = some p → sp_Wp g Ω mX11_layDrift 0 0 84 [some (.ref 103), none, some (.int a2), some (.int a3), some (.int a4), some (.int a5), none, none, none, none, none, none] [] M Q := by
  intro n
  induction n with
  | zero =>
    intro a2 a3 a4 a5 M h
    rw [fX11_layDrift_l84] at h
    cases h
  | succ n ih =>
    intro a2 a3 a4 a5 M h
    rw [fX11_layDrift_l84] at h
    refine sp_iload dX11_layDrift_84 rfl ?_
    refine sp_bipush (v := 25) dX11_layDrift_86 (by decide) ?_
    refine sp_icmp_ge (tgt := 197) dX11_layDrift_88 (by decide) (fun hc19 => ?_) (fun hc19 => ?_)
    · have h := (if_pos hc19).symm.trans h
      refine sp_weak [true, false, true, true, true, false, false, false, false, false, false, false] [some (.ref 103), none, some (.int a2), some (.int a3), some (.int a4), none, none, none, none, none, none, none] rfl ?_
      exact hx _ _ _ _ h
    · have h := (if_neg hc19).symm.trans h
      refine sp_aload_n dX11_layDrift_91 rfl rfl ?_
      refine sp_use (fun ho => ?_)
      have hs := hG.1 _ ho
      refine sp_getR (RX11, TX11, 56) dX11_layDrift_92 clX11 (j := 44) (by decide) tw_1259 (wsI_103 hs) (Or.inr ⟨_, rfl⟩) (wsP_103_44 hs) ?_
      refine sp_iload dX11_layDrift_95 rfl ?_
      obtain ⟨j20, hj20, h⟩ := Option.bind_eq_some_iff.mp h
      refine sp_lald2 (j := j20) dX11_layDrift_97 (wsA_127 hs) (wsN_127 hs) hj20 ?_
      refine sp_iload_n dX11_layDrift_98 rfl rfl ?_
      refine sp_i2l dX11_layDrift_99 ?_
      refine sp_lmul dX11_layDrift_100 ?_
      refine sp_ldc2 (v := 10) dX11_layDrift_101 tw_1570 ?_
      refine sp_ldiv dX11_layDrift_104 (by decide) ?_
      obtain ⟨u21, hu21, h⟩ := sp_do_e h
      refine sp_topl hu21 ?_
      refine sp_lstore [some (.ref 103), none, some (.int a2), some (.int a3), some (.int a4), some (.int a5), some (.long u21), none, none, none, none, none] dX11_layDrift_105 (by decide) rfl ?_
      refine sp_aload_n dX11_layDrift_107 rfl rfl ?_
      refine sp_getR (RX11, TX11, 56) dX11_layDrift_108 clX11 (j := 44) (by decide) tw_1259 (wsI_103 hs) (Or.inr ⟨_, rfl⟩) (wsP_103_44 hs) ?_
      refine sp_iload dX11_layDrift_111 rfl ?_
      obtain ⟨j22, hj22, h⟩ := Option.bind_eq_some_iff.mp h
      refine sp_lald2 (j := j22) dX11_layDrift_113 (wsA_127 hs) (wsN_127 hs) hj22 ?_
      obtain ⟨u23, hu23, h⟩ := sp_do_e h
      refine sp_topl hu23 ?_
      refine sp_lstore [some (.ref 103), none, some (.int a2), some (.int a3), some (.int a4), some (.int a5), some (.long u21), none, some (.long u23), none, none, none] dX11_layDrift_114 (by decide) rfl ?_
      refine sp_iconst (v := 1) dX11_layDrift_116 (by decide) ?_
      refine sp_istore [some (.ref 103), none, some (.int a2), some (.int a3), some (.int a4), some (.int a5), some (.long u21), none, some (.long u23), none, some (.int 1), none] dX11_layDrift_117 (by decide) rfl ?_
      refine sp_weak [true, false, true, true, true, true, true, false, true, false, true, false] [some (.ref 103), none, some (.int a2), some (.int a3), some (.int a4), some (.int a5), some (.long u21), none, some (.long u23), none, some (.int 1), none] rfl ?_
      refine tX11_layDrift_l119 hG hQ (fun b33 b34 b35 b36 b37 M32 h => ?_) F _ _ _ _ _ _ _ _ h
      refine sp_aload_n dX11_layDrift_179 rfl rfl ?_
      refine sp_use (fun ho => ?_)
      have hs := hG.1 _ ho
      refine sp_getR (RX11, TX11, 56) dX11_layDrift_180 clX11 (j := 45) (by decide) tw_1260 (wsI_103 hs) (Or.inr ⟨_, rfl⟩) (wsP_103_45 hs) ?_
      refine sp_iload dX11_layDrift_183 rfl ?_
      refine sp_dup2 dX11_layDrift_185 rfl rfl ?_
      obtain ⟨j38, hj38, h⟩ := Option.bind_eq_some_iff.mp h
      refine sp_lald2 (j := j38) dX11_layDrift_186 (wsA_128 hs) (wsN_128 hs) hj38 ?_
      refine sp_lload dX11_layDrift_187 rfl ?_
      refine sp_ladd dX11_layDrift_189 ?_
      obtain ⟨j39, hj39, h⟩ := Option.bind_eq_some_iff.mp h
      obtain ⟨M40, hM40, h⟩ := sp_do_e h
      refine sp_last2 (j := j39) hG dX11_layDrift_190 (wsA_128 hs) (wsN_128 hs) hj39 hM40 ?_
      refine sp_iinc (v := (b36 + 1)) [some (.ref 103), none, some (.int b33), some (.int b34), some (.int b35), some (.int (b36 + 1)), none, none, some (.long b37), none, none, none] dX11_layDrift_191 rfl rfl (by decide) rfl ?_
      refine sp_goto (tgt := 84) dX11_layDrift_194 (by decide) ?_
      refine sp_weak [true, false, true, true, true, true, false, false, false, false, false, false] [some (.ref 103), none, some (.int b33), some (.int b34), some (.int b35), some (.int (b36 + 1)), none, none, none, none, none, none] rfl ?_
      exact ih _ _ _ _ _ h
set_option maxRecDepth 100000 in
set_option maxHeartbeats 4000000 in
theorem tX11_layDrift_l200 {g : sp_G} {Ω : sp_Mem → Prop} {Q : sp_Qt} {F : Nat} {p : sp_Mem} (hG : sp_Ok Ω)  {kx : Int32 → Int32 → Int32 → sp_Mem → Option sp_Mem} (hQ : Q none p) (hx : ∀ (a2 : Int32) (a3 : Int32) (a4 : Int32) (M : sp_Mem), kx a2 a3 a4 M = some p → sp_Wp g Ω mX11_layDrift 0 0 227 [some (.ref 103), none, some (.int a2), some (.int a3), some (.int a4), none, none, none, none, none, none, none] [] M Q) : ∀ (n : Nat) (a2 : Int32) (a3 : Int32) (a4 : Int32) (a5 : Int32) (M : sp_Mem), fX11_layDrift_l200 F kx n a2 a3 a4 a5 M = some p → sp_Wp g Ω mX11_layDrift 0 0 200 [some (.ref 103), none, some (.int a2), some (.int a3), some (.int a4), some (.int a5), none, none, none, none, none, none] [] M Q := by
  intro n
  induction n with
  | zero =>
    intro a2 a3 a4 a5 M h
    rw [fX11_layDrift_l200] at h
    cases h
  | succ n ih =>
    intro a2 a3 a4 a5 M h
    rw [fX11_layDrift_l200] at h
    refine sp_iload dX11_layDrift_200 rfl ?_
    refine sp_bipush (v := 25) dX11_layDrift_202 (by decide) ?_
    refine sp_icmp_ge (tgt := 227) dX11_layDrift_204 (by decide) (fun hc45 => ?_) (fun hc45 => ?_)
    · have h := (if_pos hc45).symm.trans h
      refine sp_weak [true, false, true, true, true, false, false, false, false, false, false, false] [some (.ref 103), none, some (.int a2), some (.int a3), some (.int a4), none, none, none, none, none, none, none] rfl ?_
      exact hx _ _ _ _ h
    · have h := (if_neg hc45).symm.trans h
      refine sp_aload_n dX11_layDrift_207 rfl rfl ?_
      refine sp_use (fun ho => ?_)
      have hs := hG.1 _ ho
      refine sp_getR (RX11, TX11, 56) dX11_layDrift_208 clX11 (j := 44) (by decide) tw_1259 (wsI_103 hs) (Or.inr ⟨_, rfl⟩) (wsP_103_44 hs) ?_
      refine sp_iload dX11_layDrift_211 rfl ?_
      refine sp_aload_n dX11_layDrift_213 rfl rfl ?_
      refine sp_getR (RX11, TX11, 56) dX11_layDrift_214 clX11 (j := 45) (by decide) tw_1260 (wsI_103 hs) (Or.inr ⟨_, rfl⟩) (wsP_103_45 hs) ?_
      refine sp_iload dX11_layDrift_217 rfl ?_
      obtain ⟨j46, hj46, h⟩ := Option.bind_eq_some_iff.mp h
      refine sp_lald2 (j := j46) dX11_layDrift_219 (wsA_128 hs) (wsN_128 hs) hj46 ?_
      obtain ⟨j47, hj47, h⟩ := Option.bind_eq_some_iff.mp h
      obtain ⟨M48, hM48, h⟩ := sp_do_e h
      refine sp_last2 (j := j47) hG dX11_layDrift_220 (wsA_127 hs) (wsN_127 hs) hj47 hM48 ?_
      refine sp_iinc (v := (a5 + 1)) [some (.ref 103), none, some (.int a2), some (.int a3), some (.int a4), some (.int (a5 + 1)), none, none, none, none, none, none] dX11_layDrift_221 rfl rfl (by decide) rfl ?_
      refine sp_goto (tgt := 200) dX11_layDrift_224 (by decide) ?_
      refine sp_weak [true, false, true, true, true, true, false, false, false, false, false, false] [some (.ref 103), none, some (.int a2), some (.int a3), some (.int a4), some (.int (a5 + 1)), none, none, none, none, none, none] rfl ?_
      exact ih _ _ _ _ _ h
set_option maxRecDepth 100000 in
set_option maxHeartbeats 4000000 in
theorem tX11_layDrift_l51 {g : sp_G} {Ω : sp_Mem → Prop} {Q : sp_Qt} {F : Nat} {p : sp_Mem} (hG : sp_Ok Ω)  {kx : sp_Mem → Option sp_Mem} (hQ : Q none p) (hx : ∀  (M : sp_Mem), kx M = some p → sp_Wp g Ω mX11_layDrift 0 0 233 [none, none, none, none, none, none, none, none, none, none, none, none] [] M Q) : ∀ (n : Nat) (a2 : Int32) (a3 : Int32) (a4 : Int32) (M : sp_Mem), fX11_layDrift_l51 F kx n a2 a3 a4 M = some p → sp_Wp g Ω mX11_layDrift 0 0 51 [some (.ref 103), none, some (.int a2), some (.int a3), some (.int a4), none, none, none, none, none, none, none] [] M Q := by
  intro n
  induction n with
  | zero =>
    intro a2 a3 a4 M h
    rw [fX11_layDrift_l51] at h
    cases h
  | succ n ih =>
    intro a2 a3 a4 M h
    rw [fX11_layDrift_l51] at h
    refine sp_iload dX11_layDrift_51 rfl ?_
    refine sp_iload_n dX11_layDrift_53 rfl rfl ?_
    refine sp_icmp_ge (tgt := 233) dX11_layDrift_54 (by decide) (fun hc11 => ?_) (fun hc11 => ?_)
    · have h := (if_pos hc11).symm.trans h
      refine sp_weak [false, false, false, false, false, false, false, false, false, false, false, false] [none, none, none, none, none, none, none, none, none, none, none, none] rfl ?_
      exact hx _ h
    · have h := (if_neg hc11).symm.trans h
      refine sp_iconst (v := 0) dX11_layDrift_57 (by decide) ?_
      refine sp_istore [some (.ref 103), none, some (.int a2), some (.int a3), some (.int a4), some (.int 0), none, none, none, none, none, none] dX11_layDrift_58 (by decide) rfl ?_
      refine sp_weak [true, false, true, true, true, true, false, false, false, false, false, false] [some (.ref 103), none, some (.int a2), some (.int a3), some (.int a4), some (.int 0), none, none, none, none, none, none] rfl ?_
      refine tX11_layDrift_l60 hG hQ (fun b16 b17 b18 M15 h => ?_) F _ _ _ _ _ h
      refine sp_iconst (v := 0) dX11_layDrift_81 (by decide) ?_
      refine sp_istore [some (.ref 103), none, some (.int b16), some (.int b17), some (.int b18), some (.int 0), none, none, none, none, none, none] dX11_layDrift_82 (by decide) rfl ?_
      refine sp_weak [true, false, true, true, true, true, false, false, false, false, false, false] [some (.ref 103), none, some (.int b16), some (.int b17), some (.int b18), some (.int 0), none, none, none, none, none, none] rfl ?_
      refine tX11_layDrift_l84 hG hQ (fun b42 b43 b44 M41 h => ?_) F _ _ _ _ _ h
      refine sp_iconst (v := 0) dX11_layDrift_197 (by decide) ?_
      refine sp_istore [some (.ref 103), none, some (.int b42), some (.int b43), some (.int b44), some (.int 0), none, none, none, none, none, none] dX11_layDrift_198 (by decide) rfl ?_
      refine sp_weak [true, false, true, true, true, true, false, false, false, false, false, false] [some (.ref 103), none, some (.int b42), some (.int b43), some (.int b44), some (.int 0), none, none, none, none, none, none] rfl ?_
      refine tX11_layDrift_l200 hG hQ (fun b50 b51 b52 M49 h => ?_) F _ _ _ _ _ h
      refine sp_iinc (v := (b52 + 1)) [some (.ref 103), none, some (.int b50), some (.int b51), some (.int (b52 + 1)), none, none, none, none, none, none, none] dX11_layDrift_227 rfl rfl (by decide) rfl ?_
      refine sp_goto (tgt := 51) dX11_layDrift_230 (by decide) ?_
      refine sp_weak [true, false, true, true, true, false, false, false, false, false, false, false] [some (.ref 103), none, some (.int b50), some (.int b51), some (.int (b52 + 1)), none, none, none, none, none, none, none] rfl ?_
      exact ih _ _ _ _ h
set_option maxRecDepth 100000 in
set_option maxHeartbeats 4000000 in
theorem tX11_layDrift {g : sp_G} {Ω : sp_Mem → Prop} {Q : sp_Qt} {F : Nat} {p : sp_Mem} (hG : sp_Ok Ω) {M : sp_Mem} {a1 : Int32} {a2 : Int32} (h : fX11_layDrift F M a1 a2 = some p) (hQ : Q none p) : sp_Mt g Ω mX11_layDrift 0 0 [.ref 103, .int a1, .int a2] M Q := by
  unfold fX11_layDrift at h
  refine sp_Mt.of [some (.ref 103), some (.int a1), some (.int a2), none, none, none, none, none, none, none, none, none] (by decide) (by simp [sp_ent, Value.category]) rfl ?_
  refine sp_iconst (v := 0) dX11_layDrift_0 (by decide) ?_
  refine sp_istore_n [some (.ref 103), some (.int a1), some (.int a2), some (.int 0), none, none, none, none, none, none, none, none] dX11_layDrift_1 rfl (by decide) rfl ?_
  refine sp_weak [true, true, true, true, false, false, false, false, false, false, false, false] [some (.ref 103), some (.int a1), some (.int a2), some (.int 0), none, none, none, none, none, none, none, none] rfl ?_
  refine tX11_layDrift_l2 hG hQ (fun b9 M8 h => ?_) F _ _ _ _ h
  refine sp_aload_n dX11_layDrift_40 rfl rfl ?_
  refine sp_use (fun ho => ?_)
  have hs := hG.1 _ ho
  refine sp_getR (RX11, TX11, 56) dX11_layDrift_41 clX11 (j := 3) (by decide) tw_1218 (wsI_103 hs) (Or.inr ⟨_, rfl⟩) (wsP_103_3 hs) ?_
  refine sp_bipush (v := 6) dX11_layDrift_44 (by decide) ?_
  refine sp_iald2 (j := 6) dX11_layDrift_46 (wsA_105 hs) (wsN_105 hs) rfl ?_
  obtain ⟨u10, hu10, h⟩ := sp_do_e h
  refine sp_topi hu10 ?_
  refine sp_istore_n [some (.ref 103), none, some (.int b9), some (.int u10), none, none, none, none, none, none, none, none] dX11_layDrift_47 rfl (by decide) rfl ?_
  refine sp_iconst (v := 0) dX11_layDrift_48 (by decide) ?_
  refine sp_istore [some (.ref 103), none, some (.int b9), some (.int u10), some (.int 0), none, none, none, none, none, none, none] dX11_layDrift_49 (by decide) rfl ?_
  refine sp_weak [true, false, true, true, true, false, false, false, false, false, false, false] [some (.ref 103), none, some (.int b9), some (.int u10), some (.int 0), none, none, none, none, none, none, none] rfl ?_
  refine tX11_layDrift_l51 hG hQ (fun M53 h => ?_) F _ _ _ _ h
  cases h
  exact sp_vret dX11_layDrift_233 rfl (fun _ => hQ)
def fX11_drift (F : Nat) (M : sp_Mem) (a1 : Int32) (a2 : Int32) (a3 : Int32) : Option (Int64 × sp_Mem) :=
  sp_do (sp_setI M 103 0 0) fun M1 => (fX11_isSpark M1 a1).bind fun v2 => if v2 = 0 then (some ((-1), M1)) else (if (fX11_in (Int32.toInt64 a2) 0 60) = 0 then (some ((-1), M1)) else (if (fX11_isCell a3) = 0 then (some ((-1), M1)) else ((fX11_isLoose M1 a1).bind fun v6 => if v6 = 0 then (some ((-1), M1)) else ((fX11_layDrift F M1 a1 a2).bind fun M8 => (sp_ix 25 a3).bind fun j9 => some ((sp_L M8 127 j9), M8)))))
set_option maxRecDepth 100000 in
set_option maxHeartbeats 4000000 in
theorem tX11_drift {g : sp_G} {Ω : sp_Mem → Prop} {Q : sp_Qt} {F : Nat} {p : (Int64 × sp_Mem)} (hG : sp_Ok Ω) {M : sp_Mem} {a1 : Int32} {a2 : Int32} {a3 : Int32} (h : fX11_drift F M a1 a2 a3 = some p) (hQ : Q (some (.long p.1)) p.2) : sp_Mt g Ω mX11_drift 0 0 [.ref 103, .int a1, .int a2, .int a3] M Q := by
  unfold fX11_drift at h
  refine sp_Mt.of [some (.ref 103), some (.int a1), some (.int a2), some (.int a3)] (by decide) (by simp [sp_ent, Value.category]) rfl ?_
  refine sp_aload_n dX11_drift_0 rfl rfl ?_
  refine sp_iconst (v := 0) dX11_drift_1 (by decide) ?_
  refine sp_use (fun ho => ?_)
  have hs := hG.1 _ ho
  obtain ⟨M1, hM1, h⟩ := sp_do_e h
  refine sp_putI2 (RX11, TX11, 56) hG dX11_drift_2 clX11 (j := 0) (by decide) tw_1215 rfl (Or.inl rfl) (wsI_103 hs) hM1 ?_
  refine sp_aload_n dX11_drift_5 rfl rfl ?_
  refine sp_iload_n dX11_drift_6 rfl rfl ?_
  refine sp_use (fun ho => ?_)
  have hs := hG.1 _ ho
  obtain ⟨v2, hv2, h⟩ := Option.bind_eq_some_iff.mp h
  refine sp_cV (M1 := M1) (r := some (.int v2)) (o := 103) (st := []) (c := 10) (RX11, TX11, 56) [.int a1] [.int a1, .ref 103] [.int v2] dX11_drift_7 okX11_isSpark tw_1424 tw_1426 tw_30 (by decide) (by decide) rfl (Nat.le_of_ble_eq_true rfl) rfl rfl rfl rfl (wsI_103 hs) (fun Q hQ => tX11_isSpark hG hv2 hQ) ?_
  refine sp_if_eq (tgt := 40) dX11_drift_10 (by decide) (fun hc3 => ?_) (fun hc3 => ?_)
  · have h := (if_pos hc3).symm.trans h
    refine sp_ldc2 (v := (-1)) dX11_drift_40 tw_1451 ?_
    cases h
    exact sp_lret dX11_drift_43 rfl (fun _ => hQ)
  · have h := (if_neg hc3).symm.trans h
    refine sp_iload_n dX11_drift_13 rfl rfl ?_
    refine sp_i2l dX11_drift_14 ?_
    refine sp_lconst (v := 0) dX11_drift_15 (by decide) ?_
    refine sp_ldc2 (v := 60) dX11_drift_16 tw_1743 ?_
    refine sp_cS (M1 := M1) (r := some (.int (fX11_in (Int32.toInt64 a2) 0 60))) (st := []) [.long (Int32.toInt64 a2), .long 0, .long 60] [.long 60, .long 0, .long (Int32.toInt64 a2)] [.int (fX11_in (Int32.toInt64 a2) 0 60)] dX11_drift_19 okX11_in tw_1400 tw_1401 (by decide) (by decide) rfl (Nat.le_of_ble_eq_true rfl) rfl rfl (fun Q hQ => tX11_in hG rfl hQ) ?_
    refine sp_if_eq (tgt := 40) dX11_drift_22 (by decide) (fun hc4 => ?_) (fun hc4 => ?_)
    · have h := (if_pos hc4).symm.trans h
      refine sp_ldc2 (v := (-1)) dX11_drift_40 tw_1451 ?_
      cases h
      exact sp_lret dX11_drift_43 rfl (fun _ => hQ)
    · have h := (if_neg hc4).symm.trans h
      refine sp_iload_n dX11_drift_25 rfl rfl ?_
      refine sp_cS (M1 := M1) (r := some (.int (fX11_isCell a3))) (st := []) [.int a3] [.int a3] [.int (fX11_isCell a3)] dX11_drift_26 okX11_isCell tw_1415 tw_1416 (by decide) (by decide) rfl (Nat.le_of_ble_eq_true rfl) rfl rfl (fun Q hQ => tX11_isCell hG rfl hQ) ?_
      refine sp_if_eq (tgt := 40) dX11_drift_29 (by decide) (fun hc5 => ?_) (fun hc5 => ?_)
      · have h := (if_pos hc5).symm.trans h
        refine sp_ldc2 (v := (-1)) dX11_drift_40 tw_1451 ?_
        cases h
        exact sp_lret dX11_drift_43 rfl (fun _ => hQ)
      · have h := (if_neg hc5).symm.trans h
        refine sp_aload_n dX11_drift_32 rfl rfl ?_
        refine sp_iload_n dX11_drift_33 rfl rfl ?_
        obtain ⟨v6, hv6, h⟩ := Option.bind_eq_some_iff.mp h
        refine sp_cV (M1 := M1) (r := some (.int v6)) (o := 103) (st := []) (c := 10) (RX11, TX11, 56) [.int a1] [.int a1, .ref 103] [.int v6] dX11_drift_34 okX11_isLoose tw_1428 tw_1430 tw_31 (by decide) (by decide) rfl (Nat.le_of_ble_eq_true rfl) rfl rfl rfl rfl (wsI_103 hs) (fun Q hQ => tX11_isLoose hG hv6 hQ) ?_
        refine sp_if_ne (tgt := 44) dX11_drift_37 (by decide) (fun hc7 => ?_) (fun hc7 => ?_)
        · have h := (if_neg hc7).symm.trans h
          refine sp_aload_n dX11_drift_44 rfl rfl ?_
          refine sp_iload_n dX11_drift_45 rfl rfl ?_
          refine sp_iload_n dX11_drift_46 rfl rfl ?_
          obtain ⟨M8, hM8, h⟩ := Option.bind_eq_some_iff.mp h
          refine sp_cV (M1 := M8) (r := none) (o := 103) (st := []) (c := 10) (RX11, TX11, 56) [.int a1, .int a2] [.int a2, .int a1, .ref 103] [] dX11_drift_47 okX11_layDrift tw_1828 tw_1830 tw_89 (by decide) (by decide) rfl (Nat.le_of_ble_eq_true rfl) rfl rfl rfl rfl (wsI_103 hs) (fun Q hQ => tX11_layDrift hG hM8 hQ) ?_
          refine sp_aload_n dX11_drift_50 rfl rfl ?_
          refine sp_use (fun ho => ?_)
          have hs := hG.1 _ ho
          refine sp_getR (RX11, TX11, 56) dX11_drift_51 clX11 (j := 44) (by decide) tw_1259 (wsI_103 hs) (Or.inr ⟨_, rfl⟩) (wsP_103_44 hs) ?_
          refine sp_iload_n dX11_drift_54 rfl rfl ?_
          obtain ⟨j9, hj9, h⟩ := Option.bind_eq_some_iff.mp h
          refine sp_lald2 (j := j9) dX11_drift_55 (wsA_127 hs) (wsN_127 hs) hj9 ?_
          cases h
          exact sp_lret dX11_drift_56 rfl (fun _ => hQ)
        · have h := (if_pos hc7).symm.trans h
          refine sp_ldc2 (v := (-1)) dX11_drift_40 tw_1451 ?_
          cases h
          exact sp_lret dX11_drift_43 rfl (fun _ => hQ)
def fX11_sodden_l46 (F : Nat) (kx : Int32 → sp_Mem → Option (Int32 × sp_Mem)) : Nat → Int32 → Int32 → sp_Mem → Option (Int32 × sp_Mem)
  | 0, _, _, _ => none
  | n + 1, a3, a4, M =>
  if 25 ≤ a4 then (kx a3 M) else ((sp_ix 25 a4).bind fun j9 => (sp_ix 25 a3).bind fun j10 => sp_do ((if (sp_L M 127 j9) ≤ (sp_L M 127 j10) then a3 else a4)) fun u12 => (fX11_sodden_l46 F kx n) u12 (a4 + 1) M)
def fX11_sodden (F : Nat) (M : sp_Mem) (a1 : Int32) (a2 : Int32) : Option (Int32 × sp_Mem) :=
  sp_do (sp_setI M 103 0 0) fun M1 => (fX11_isSpark M1 a1).bind fun v2 => if v2 = 0 then (some ((-1), M1)) else (if (fX11_in (Int32.toInt64 a2) 0 60) = 0 then (some ((-1), M1)) else ((fX11_isLoose M1 a1).bind fun v5 => if v5 = 0 then (some ((-1), M1)) else ((fX11_layDrift F M1 a1 a2).bind fun M7 => fX11_sodden_l46 F (fun b14 M13 => some (b14, M13)) F 0 1 M7)))
set_option maxRecDepth 100000 in
set_option maxHeartbeats 4000000 in
theorem tX11_sodden_l46 {g : sp_G} {Ω : sp_Mem → Prop} {Q : sp_Qt} {F : Nat} {p : (Int32 × sp_Mem)} (hG : sp_Ok Ω)  {kx : Int32 → sp_Mem → Option (Int32 × sp_Mem)} (hQ : Q (some (.int p.1)) p.2) (hx : ∀ (a3 : Int32) (M : sp_Mem), kx a3 M = some p → sp_Wp g Ω mX11_sodden 0 0 83 [none, none, none, some (.int a3), none] [] M Q) : ∀ (n : Nat) (a3 : Int32) (a4 : Int32) (M : sp_Mem), fX11_sodden_l46 F kx n a3 a4 M = some p → sp_Wp g Ω mX11_sodden 0 0 46 [some (.ref 103), none, none, some (.int a3), some (.int a4)] [] M Q := by
  intro n
  induction n with
  | zero =>
    intro a3 a4 M h
    rw [fX11_sodden_l46] at h
    cases h
  | succ n ih =>
    intro a3 a4 M h
    rw [fX11_sodden_l46] at h
    refine sp_iload dX11_sodden_46 rfl ?_
    refine sp_bipush (v := 25) dX11_sodden_48 (by decide) ?_
    refine sp_icmp_ge (tgt := 83) dX11_sodden_50 (by decide) (fun hc8 => ?_) (fun hc8 => ?_)
    · have h := (if_pos hc8).symm.trans h
      refine sp_weak [false, false, false, true, false] [none, none, none, some (.int a3), none] rfl ?_
      exact hx _ _ h
    · have h := (if_neg hc8).symm.trans h
      refine sp_aload_n dX11_sodden_53 rfl rfl ?_
      refine sp_use (fun ho => ?_)
      have hs := hG.1 _ ho
      refine sp_getR (RX11, TX11, 56) dX11_sodden_54 clX11 (j := 44) (by decide) tw_1259 (wsI_103 hs) (Or.inr ⟨_, rfl⟩) (wsP_103_44 hs) ?_
      refine sp_iload dX11_sodden_57 rfl ?_
      obtain ⟨j9, hj9, h⟩ := Option.bind_eq_some_iff.mp h
      refine sp_lald2 (j := j9) dX11_sodden_59 (wsA_127 hs) (wsN_127 hs) hj9 ?_
      refine sp_aload_n dX11_sodden_60 rfl rfl ?_
      refine sp_getR (RX11, TX11, 56) dX11_sodden_61 clX11 (j := 44) (by decide) tw_1259 (wsI_103 hs) (Or.inr ⟨_, rfl⟩) (wsP_103_44 hs) ?_
      refine sp_iload_n dX11_sodden_64 rfl rfl ?_
      obtain ⟨j10, hj10, h⟩ := Option.bind_eq_some_iff.mp h
      refine sp_lald2 (j := j10) dX11_sodden_65 (wsA_127 hs) (wsN_127 hs) hj10 ?_
      refine sp_lcmp dX11_sodden_66 ?_
      suffices hj : sp_Wp g Ω mX11_sodden 0 0 76 [some (.ref 103), none, none, none, some (.int a4)] [.int (if (sp_L M 127 j9) ≤ (sp_L M 127 j10) then a3 else a4)] M Q by
        refine sp_lif_le (tgt := 75) dX11_sodden_67 (by decide) (fun hc11 => ?_) (fun hc11 => ?_)
        · refine sp_iload_n dX11_sodden_75 rfl rfl ?_
          refine sp_weak [true, false, false, false, true] [some (.ref 103), none, none, none, some (.int a4)] rfl ?_
          simp only [if_pos hc11] at hj
          exact hj
        · refine sp_iload dX11_sodden_70 rfl ?_
          refine sp_goto (tgt := 76) dX11_sodden_72 (by decide) ?_
          refine sp_weak [true, false, false, false, true] [some (.ref 103), none, none, none, some (.int a4)] rfl ?_
          simp only [if_neg hc11] at hj
          exact hj
      obtain ⟨u12, hu12, h⟩ := sp_do_e h
      refine sp_topi hu12 ?_
      refine sp_istore_n [some (.ref 103), none, none, some (.int u12), some (.int a4)] dX11_sodden_76 rfl (by decide) rfl ?_
      refine sp_iinc (v := (a4 + 1)) [some (.ref 103), none, none, some (.int u12), some (.int (a4 + 1))] dX11_sodden_77 rfl rfl (by decide) rfl ?_
      refine sp_goto (tgt := 46) dX11_sodden_80 (by decide) ?_
      refine sp_weak [true, false, false, true, true] [some (.ref 103), none, none, some (.int u12), some (.int (a4 + 1))] rfl ?_
      exact ih _ _ _ h
set_option maxRecDepth 100000 in
set_option maxHeartbeats 4000000 in
theorem tX11_sodden {g : sp_G} {Ω : sp_Mem → Prop} {Q : sp_Qt} {F : Nat} {p : (Int32 × sp_Mem)} (hG : sp_Ok Ω) {M : sp_Mem} {a1 : Int32} {a2 : Int32} (h : fX11_sodden F M a1 a2 = some p) (hQ : Q (some (.int p.1)) p.2) : sp_Mt g Ω mX11_sodden 0 0 [.ref 103, .int a1, .int a2] M Q := by
  unfold fX11_sodden at h
  refine sp_Mt.of [some (.ref 103), some (.int a1), some (.int a2), none, none] (by decide) (by simp [sp_ent, Value.category]) rfl ?_
  refine sp_aload_n dX11_sodden_0 rfl rfl ?_
  refine sp_iconst (v := 0) dX11_sodden_1 (by decide) ?_
  refine sp_use (fun ho => ?_)
  have hs := hG.1 _ ho
  obtain ⟨M1, hM1, h⟩ := sp_do_e h
  refine sp_putI2 (RX11, TX11, 56) hG dX11_sodden_2 clX11 (j := 0) (by decide) tw_1215 rfl (Or.inl rfl) (wsI_103 hs) hM1 ?_
  refine sp_aload_n dX11_sodden_5 rfl rfl ?_
  refine sp_iload_n dX11_sodden_6 rfl rfl ?_
  refine sp_use (fun ho => ?_)
  have hs := hG.1 _ ho
  obtain ⟨v2, hv2, h⟩ := Option.bind_eq_some_iff.mp h
  refine sp_cV (M1 := M1) (r := some (.int v2)) (o := 103) (st := []) (c := 10) (RX11, TX11, 56) [.int a1] [.int a1, .ref 103] [.int v2] dX11_sodden_7 okX11_isSpark tw_1424 tw_1426 tw_30 (by decide) (by decide) rfl (Nat.le_of_ble_eq_true rfl) rfl rfl rfl rfl (wsI_103 hs) (fun Q hQ => tX11_isSpark hG hv2 hQ) ?_
  refine sp_if_eq (tgt := 33) dX11_sodden_10 (by decide) (fun hc3 => ?_) (fun hc3 => ?_)
  · have h := (if_pos hc3).symm.trans h
    refine sp_iconst (v := (-1)) dX11_sodden_33 (by decide) ?_
    cases h
    exact sp_iret dX11_sodden_34 (ty := .int) rfl rfl (fun _ => hQ)
  · have h := (if_neg hc3).symm.trans h
    refine sp_iload_n dX11_sodden_13 rfl rfl ?_
    refine sp_i2l dX11_sodden_14 ?_
    refine sp_lconst (v := 0) dX11_sodden_15 (by decide) ?_
    refine sp_ldc2 (v := 60) dX11_sodden_16 tw_1743 ?_
    refine sp_cS (M1 := M1) (r := some (.int (fX11_in (Int32.toInt64 a2) 0 60))) (st := []) [.long (Int32.toInt64 a2), .long 0, .long 60] [.long 60, .long 0, .long (Int32.toInt64 a2)] [.int (fX11_in (Int32.toInt64 a2) 0 60)] dX11_sodden_19 okX11_in tw_1400 tw_1401 (by decide) (by decide) rfl (Nat.le_of_ble_eq_true rfl) rfl rfl (fun Q hQ => tX11_in hG rfl hQ) ?_
    refine sp_if_eq (tgt := 33) dX11_sodden_22 (by decide) (fun hc4 => ?_) (fun hc4 => ?_)
    · have h := (if_pos hc4).symm.trans h
      refine sp_iconst (v := (-1)) dX11_sodden_33 (by decide) ?_
      cases h
      exact sp_iret dX11_sodden_34 (ty := .int) rfl rfl (fun _ => hQ)
    · have h := (if_neg hc4).symm.trans h
      refine sp_aload_n dX11_sodden_25 rfl rfl ?_
      refine sp_iload_n dX11_sodden_26 rfl rfl ?_
      obtain ⟨v5, hv5, h⟩ := Option.bind_eq_some_iff.mp h
      refine sp_cV (M1 := M1) (r := some (.int v5)) (o := 103) (st := []) (c := 10) (RX11, TX11, 56) [.int a1] [.int a1, .ref 103] [.int v5] dX11_sodden_27 okX11_isLoose tw_1428 tw_1430 tw_31 (by decide) (by decide) rfl (Nat.le_of_ble_eq_true rfl) rfl rfl rfl rfl (wsI_103 hs) (fun Q hQ => tX11_isLoose hG hv5 hQ) ?_
      refine sp_if_ne (tgt := 35) dX11_sodden_30 (by decide) (fun hc6 => ?_) (fun hc6 => ?_)
      · have h := (if_neg hc6).symm.trans h
        refine sp_aload_n dX11_sodden_35 rfl rfl ?_
        refine sp_iload_n dX11_sodden_36 rfl rfl ?_
        refine sp_iload_n dX11_sodden_37 rfl rfl ?_
        obtain ⟨M7, hM7, h⟩ := Option.bind_eq_some_iff.mp h
        refine sp_cV (M1 := M7) (r := none) (o := 103) (st := []) (c := 10) (RX11, TX11, 56) [.int a1, .int a2] [.int a2, .int a1, .ref 103] [] dX11_sodden_38 okX11_layDrift tw_1828 tw_1830 tw_89 (by decide) (by decide) rfl (Nat.le_of_ble_eq_true rfl) rfl rfl rfl rfl (wsI_103 hs) (fun Q hQ => tX11_layDrift hG hM7 hQ) ?_
        refine sp_iconst (v := 0) dX11_sodden_41 (by decide) ?_
        refine sp_istore_n [some (.ref 103), some (.int a1), some (.int a2), some (.int 0), none] dX11_sodden_42 rfl (by decide) rfl ?_
        refine sp_iconst (v := 1) dX11_sodden_43 (by decide) ?_
        refine sp_istore [some (.ref 103), some (.int a1), some (.int a2), some (.int 0), some (.int 1)] dX11_sodden_44 (by decide) rfl ?_
        refine sp_weak [true, false, false, true, true] [some (.ref 103), none, none, some (.int 0), some (.int 1)] rfl ?_
        refine tX11_sodden_l46 hG hQ (fun b14 M13 h => ?_) F _ _ _ h
        refine sp_iload_n dX11_sodden_83 rfl rfl ?_
        cases h
        exact sp_iret dX11_sodden_84 (ty := .int) rfl rfl (fun _ => hQ)
      · have h := (if_pos hc6).symm.trans h
        refine sp_iconst (v := (-1)) dX11_sodden_33 (by decide) ?_
        cases h
        exact sp_iret dX11_sodden_34 (ty := .int) rfl rfl (fun _ => hQ)
def fX11_hot_l50 (F : Nat) (kx : Int32 → sp_Mem → Option (Int32 × sp_Mem)) : Nat → Int32 → Int32 → Int32 → sp_Mem → Option (Int32 × sp_Mem)
  | 0, _, _, _, _ => none
  | n + 1, a2, a3, a4, M =>
  if a2 ≤ a4 then (kx a3 M) else ((fX11_passIt F M).bind fun M9 => (fX11_hot_l50 F kx n) a2 a3 (a4 + 1) M9)
def fX11_hot_l72 (F : Nat) (kx : Int32 → Int32 → sp_Mem → Option (Int32 × sp_Mem)) : Nat → Int32 → Int32 → Int32 → sp_Mem → Option (Int32 × sp_Mem)
  | 0, _, _, _, _ => none
  | n + 1, a3, a4, a5, M =>
  if (sp_I M 105 0) ≤ a5 then (kx a3 a4 M) else ((sp_ix 5480 (15 + a5)).bind fun j13 => sp_do ((a4 + (sp_I M 105 j13))) fun u14 => (fX11_hot_l72 F kx n) a3 u14 (a5 + 1) M)
def fX11_hot (F : Nat) (M : sp_Mem) (a1 : Int32) (a2 : Int32) : Option (Int32 × sp_Mem) :=
  sp_do (sp_setI M 103 0 0) fun M1 => (fX11_isLaw M1 a1).bind fun v2 => if v2 = 0 then (some ((-1), M1)) else (if (fX11_in (Int32.toInt64 a2) 0 60) = 0 then (some ((-1), M1)) else (sp_do ((sp_I M1 105 4)) fun u5 => sp_do (sp_setI M1 105 4 a1) fun M6 => (fX11_keepAll F M6 16).bind fun M7 => fX11_hot_l50 F (fun b11 M10 => fX11_hot_l72 F (fun b16 b17 M15 => (fX11_putBack F M15 16).bind fun M18 => sp_do (sp_setI M18 105 4 b16) fun M19 => some (b17, M19)) F b11 0 0 M10) F a2 u5 0 M7))
set_option maxRecDepth 100000 in
set_option maxHeartbeats 4000000 in
theorem tX11_hot_l50 {g : sp_G} {Ω : sp_Mem → Prop} {Q : sp_Qt} {F : Nat} {p : (Int32 × sp_Mem)} (hG : sp_Ok Ω)  {kx : Int32 → sp_Mem → Option (Int32 × sp_Mem)} (hQ : Q (some (.int p.1)) p.2) (hx : ∀ (a3 : Int32) (M : sp_Mem), kx a3 M = some p → sp_Wp g Ω mX11_hot 0 0 66 [some (.ref 103), none, none, some (.int a3), none, none] [] M Q) : ∀ (n : Nat) (a2 : Int32) (a3 : Int32) (a4 : Int32) (M : sp_Mem), fX11_hot_l50 F kx n a2 a3 a4 M = some p → sp_Wp g Ω mX11_hot 0 0 50 [some (.ref 103), none, some (.int a2), some (.int a3), some (.int a4), none] [] M Q := by
  intro n
  induction n with
  | zero =>
    intro a2 a3 a4 M h
    rw [fX11_hot_l50] at h
    cases h
  | succ n ih =>
    intro a2 a3 a4 M h
    rw [fX11_hot_l50] at h
    refine sp_iload dX11_hot_50 rfl ?_
    refine sp_iload_n dX11_hot_52 rfl rfl ?_
    refine sp_icmp_ge (tgt := 66) dX11_hot_53 (by decide) (fun hc8 => ?_) (fun hc8 => ?_)
    · have h := (if_pos hc8).symm.trans h
      refine sp_weak [true, false, false, true, false, false] [some (.ref 103), none, none, some (.int a3), none, none] rfl ?_
      exact hx _ _ h
    · have h := (if_neg hc8).symm.trans h
      refine sp_aload_n dX11_hot_56 rfl rfl ?_
      refine sp_use (fun ho => ?_)
      have hs := hG.1 _ ho
      obtain ⟨M9, hM9, h⟩ := Option.bind_eq_some_iff.mp h
      refine sp_cV (M1 := M9) (r := none) (o := 103) (st := []) (c := 10) (RX11, TX11, 56) [] [.ref 103] [] dX11_hot_57 okX11_passIt tw_1731 tw_1733 tw_78 (by decide) (by decide) rfl (Nat.le_of_ble_eq_true rfl) rfl rfl rfl rfl (wsI_103 hs) (fun Q hQ => tX11_passIt hG hM9 hQ) ?_
      refine sp_iinc (v := (a4 + 1)) [some (.ref 103), none, some (.int a2), some (.int a3), some (.int (a4 + 1)), none] dX11_hot_60 rfl rfl (by decide) rfl ?_
      refine sp_goto (tgt := 50) dX11_hot_63 (by decide) ?_
      refine sp_weak [true, false, true, true, true, false] [some (.ref 103), none, some (.int a2), some (.int a3), some (.int (a4 + 1)), none] rfl ?_
      exact ih _ _ _ _ h
set_option maxRecDepth 100000 in
set_option maxHeartbeats 4000000 in
theorem tX11_hot_l72 {g : sp_G} {Ω : sp_Mem → Prop} {Q : sp_Qt} {F : Nat} {p : (Int32 × sp_Mem)} (hG : sp_Ok Ω)  {kx : Int32 → Int32 → sp_Mem → Option (Int32 × sp_Mem)} (hQ : Q (some (.int p.1)) p.2) (hx : ∀ (a3 : Int32) (a4 : Int32) (M : sp_Mem), kx a3 a4 M = some p → sp_Wp g Ω mX11_hot 0 0 104 [some (.ref 103), none, none, some (.int a3), some (.int a4), none] [] M Q) : ∀ (n : Nat) (a3 : Int32) (a4 : Int32) (a5 : Int32) (M : sp_Mem), fX11_hot_l72 F kx n a3 a4 a5 M = some p → sp_Wp g Ω mX11_hot 0 0 72 [some (.ref 103), none, none, some (.int a3), some (.int a4), some (.int a5)] [] M Q := by
  intro n
  induction n with
  | zero =>
    intro a3 a4 a5 M h
    rw [fX11_hot_l72] at h
    cases h
  | succ n ih =>
    intro a3 a4 a5 M h
    rw [fX11_hot_l72] at h
    refine sp_iload dX11_hot_72 rfl ?_
    refine sp_aload_n dX11_hot_74 rfl rfl ?_
    refine sp_use (fun ho => ?_)
    have hs := hG.1 _ ho
    refine sp_getR (RX11, TX11, 56) dX11_hot_75 clX11 (j := 3) (by decide) tw_1218 (wsI_103 hs) (Or.inr ⟨_, rfl⟩) (wsP_103_3 hs) ?_
    refine sp_iconst (v := 0) dX11_hot_78 (by decide) ?_
    refine sp_iald2 (j := 0) dX11_hot_79 (wsA_105 hs) (wsN_105 hs) rfl ?_
    refine sp_icmp_ge (tgt := 104) dX11_hot_80 (by decide) (fun hc12 => ?_) (fun hc12 => ?_)
    · have h := (if_pos hc12).symm.trans h
      refine sp_weak [true, false, false, true, true, false] [some (.ref 103), none, none, some (.int a3), some (.int a4), none] rfl ?_
      exact hx _ _ _ h
    · have h := (if_neg hc12).symm.trans h
      refine sp_iload dX11_hot_83 rfl ?_
      refine sp_aload_n dX11_hot_85 rfl rfl ?_
      refine sp_getR (RX11, TX11, 56) dX11_hot_86 clX11 (j := 3) (by decide) tw_1218 (wsI_103 hs) (Or.inr ⟨_, rfl⟩) (wsP_103_3 hs) ?_
      refine sp_bipush (v := 15) dX11_hot_89 (by decide) ?_
      refine sp_iload dX11_hot_91 rfl ?_
      refine sp_iadd dX11_hot_93 ?_
      obtain ⟨j13, hj13, h⟩ := Option.bind_eq_some_iff.mp h
      refine sp_iald2 (j := j13) dX11_hot_94 (wsA_105 hs) (wsN_105 hs) hj13 ?_
      refine sp_iadd dX11_hot_95 ?_
      obtain ⟨u14, hu14, h⟩ := sp_do_e h
      refine sp_topi hu14 ?_
      refine sp_istore [some (.ref 103), none, none, some (.int a3), some (.int u14), some (.int a5)] dX11_hot_96 (by decide) rfl ?_
      refine sp_iinc (v := (a5 + 1)) [some (.ref 103), none, none, some (.int a3), some (.int u14), some (.int (a5 + 1))] dX11_hot_98 rfl rfl (by decide) rfl ?_
      refine sp_goto (tgt := 72) dX11_hot_101 (by decide) ?_
      refine sp_weak [true, false, false, true, true, true] [some (.ref 103), none, none, some (.int a3), some (.int u14), some (.int (a5 + 1))] rfl ?_
      exact ih _ _ _ _ h
set_option maxRecDepth 100000 in
set_option maxHeartbeats 4000000 in
theorem tX11_hot {g : sp_G} {Ω : sp_Mem → Prop} {Q : sp_Qt} {F : Nat} {p : (Int32 × sp_Mem)} (hG : sp_Ok Ω) {M : sp_Mem} {a1 : Int32} {a2 : Int32} (h : fX11_hot F M a1 a2 = some p) (hQ : Q (some (.int p.1)) p.2) : sp_Mt g Ω mX11_hot 0 0 [.ref 103, .int a1, .int a2] M Q := by
  unfold fX11_hot at h
  refine sp_Mt.of [some (.ref 103), some (.int a1), some (.int a2), none, none, none] (by decide) (by simp [sp_ent, Value.category]) rfl ?_
  refine sp_aload_n dX11_hot_0 rfl rfl ?_
  refine sp_iconst (v := 0) dX11_hot_1 (by decide) ?_
  refine sp_use (fun ho => ?_)
  have hs := hG.1 _ ho
  obtain ⟨M1, hM1, h⟩ := sp_do_e h
  refine sp_putI2 (RX11, TX11, 56) hG dX11_hot_2 clX11 (j := 0) (by decide) tw_1215 rfl (Or.inl rfl) (wsI_103 hs) hM1 ?_
  refine sp_aload_n dX11_hot_5 rfl rfl ?_
  refine sp_iload_n dX11_hot_6 rfl rfl ?_
  refine sp_use (fun ho => ?_)
  have hs := hG.1 _ ho
  obtain ⟨v2, hv2, h⟩ := Option.bind_eq_some_iff.mp h
  refine sp_cV (M1 := M1) (r := some (.int v2)) (o := 103) (st := []) (c := 10) (RX11, TX11, 56) [.int a1] [.int a1, .ref 103] [.int v2] dX11_hot_7 okX11_isLaw tw_1667 tw_1669 tw_67 (by decide) (by decide) rfl (Nat.le_of_ble_eq_true rfl) rfl rfl rfl rfl (wsI_103 hs) (fun Q hQ => tX11_isLaw hG hv2 hQ) ?_
  refine sp_if_eq (tgt := 25) dX11_hot_10 (by decide) (fun hc3 => ?_) (fun hc3 => ?_)
  · have h := (if_pos hc3).symm.trans h
    refine sp_iconst (v := (-1)) dX11_hot_25 (by decide) ?_
    cases h
    exact sp_iret dX11_hot_26 (ty := .int) rfl rfl (fun _ => hQ)
  · have h := (if_neg hc3).symm.trans h
    refine sp_iload_n dX11_hot_13 rfl rfl ?_
    refine sp_i2l dX11_hot_14 ?_
    refine sp_lconst (v := 0) dX11_hot_15 (by decide) ?_
    refine sp_ldc2 (v := 60) dX11_hot_16 tw_1743 ?_
    refine sp_cS (M1 := M1) (r := some (.int (fX11_in (Int32.toInt64 a2) 0 60))) (st := []) [.long (Int32.toInt64 a2), .long 0, .long 60] [.long 60, .long 0, .long (Int32.toInt64 a2)] [.int (fX11_in (Int32.toInt64 a2) 0 60)] dX11_hot_19 okX11_in tw_1400 tw_1401 (by decide) (by decide) rfl (Nat.le_of_ble_eq_true rfl) rfl rfl (fun Q hQ => tX11_in hG rfl hQ) ?_
    refine sp_if_ne (tgt := 27) dX11_hot_22 (by decide) (fun hc4 => ?_) (fun hc4 => ?_)
    · have h := (if_neg hc4).symm.trans h
      refine sp_aload_n dX11_hot_27 rfl rfl ?_
      refine sp_getR (RX11, TX11, 56) dX11_hot_28 clX11 (j := 3) (by decide) tw_1218 (wsI_103 hs) (Or.inr ⟨_, rfl⟩) (wsP_103_3 hs) ?_
      refine sp_iconst (v := 4) dX11_hot_31 (by decide) ?_
      refine sp_iald2 (j := 4) dX11_hot_32 (wsA_105 hs) (wsN_105 hs) rfl ?_
      obtain ⟨u5, hu5, h⟩ := sp_do_e h
      refine sp_topi hu5 ?_
      refine sp_istore_n [some (.ref 103), some (.int a1), some (.int a2), some (.int u5), none, none] dX11_hot_33 rfl (by decide) rfl ?_
      refine sp_aload_n dX11_hot_34 rfl rfl ?_
      refine sp_getR (RX11, TX11, 56) dX11_hot_35 clX11 (j := 3) (by decide) tw_1218 (wsI_103 hs) (Or.inr ⟨_, rfl⟩) (wsP_103_3 hs) ?_
      refine sp_iconst (v := 4) dX11_hot_38 (by decide) ?_
      refine sp_iload_n dX11_hot_39 rfl rfl ?_
      obtain ⟨M6, hM6, h⟩ := sp_do_e h
      refine sp_iast2 (j := 4) hG dX11_hot_40 (wsA_105 hs) (wsN_105 hs) rfl hM6 ?_
      refine sp_aload_n dX11_hot_41 rfl rfl ?_
      refine sp_bipush (v := 16) dX11_hot_42 (by decide) ?_
      refine sp_use (fun ho => ?_)
      have hs := hG.1 _ ho
      obtain ⟨M7, hM7, h⟩ := Option.bind_eq_some_iff.mp h
      refine sp_cV (M1 := M7) (r := none) (o := 103) (st := []) (c := 10) (RX11, TX11, 56) [.int 16] [.int 16, .ref 103] [] dX11_hot_44 okX11_keepAll tw_1687 tw_1689 tw_71 (by decide) (by decide) rfl (Nat.le_of_ble_eq_true rfl) rfl rfl rfl rfl (wsI_103 hs) (fun Q hQ => tX11_keepAll hG hM7 hQ) ?_
      refine sp_iconst (v := 0) dX11_hot_47 (by decide) ?_
      refine sp_istore [some (.ref 103), some (.int a1), some (.int a2), some (.int u5), some (.int 0), none] dX11_hot_48 (by decide) rfl ?_
      refine sp_weak [true, false, true, true, true, false] [some (.ref 103), none, some (.int a2), some (.int u5), some (.int 0), none] rfl ?_
      refine tX11_hot_l50 hG hQ (fun b11 M10 h => ?_) F _ _ _ _ h
      refine sp_iconst (v := 0) dX11_hot_66 (by decide) ?_
      refine sp_istore [some (.ref 103), none, none, some (.int b11), some (.int 0), none] dX11_hot_67 (by decide) rfl ?_
      refine sp_iconst (v := 0) dX11_hot_69 (by decide) ?_
      refine sp_istore [some (.ref 103), none, none, some (.int b11), some (.int 0), some (.int 0)] dX11_hot_70 (by decide) rfl ?_
      refine sp_weak [true, false, false, true, true, true] [some (.ref 103), none, none, some (.int b11), some (.int 0), some (.int 0)] rfl ?_
      refine tX11_hot_l72 hG hQ (fun b16 b17 M15 h => ?_) F _ _ _ _ h
      refine sp_aload_n dX11_hot_104 rfl rfl ?_
      refine sp_bipush (v := 16) dX11_hot_105 (by decide) ?_
      refine sp_use (fun ho => ?_)
      have hs := hG.1 _ ho
      obtain ⟨M18, hM18, h⟩ := Option.bind_eq_some_iff.mp h
      refine sp_cV (M1 := M18) (r := none) (o := 103) (st := []) (c := 10) (RX11, TX11, 56) [.int 16] [.int 16, .ref 103] [] dX11_hot_107 okX11_putBack tw_1392 tw_1394 tw_28 (by decide) (by decide) rfl (Nat.le_of_ble_eq_true rfl) rfl rfl rfl rfl (wsI_103 hs) (fun Q hQ => tX11_putBack hG hM18 hQ) ?_
      refine sp_aload_n dX11_hot_110 rfl rfl ?_
      refine sp_use (fun ho => ?_)
      have hs := hG.1 _ ho
      refine sp_getR (RX11, TX11, 56) dX11_hot_111 clX11 (j := 3) (by decide) tw_1218 (wsI_103 hs) (Or.inr ⟨_, rfl⟩) (wsP_103_3 hs) ?_
      refine sp_iconst (v := 4) dX11_hot_114 (by decide) ?_
      refine sp_iload_n dX11_hot_115 rfl rfl ?_
      obtain ⟨M19, hM19, h⟩ := sp_do_e h
      refine sp_iast2 (j := 4) hG dX11_hot_116 (wsA_105 hs) (wsN_105 hs) rfl hM19 ?_
      refine sp_iload dX11_hot_117 rfl ?_
      cases h
      exact sp_iret dX11_hot_119 (ty := .int) rfl rfl (fun _ => hQ)
    · have h := (if_pos hc4).symm.trans h
      refine sp_iconst (v := (-1)) dX11_hot_25 (by decide) ?_
      cases h
      exact sp_iret dX11_hot_26 (ty := .int) rfl rfl (fun _ => hQ)
def fX11_readSum_j22 (F : Nat) (a1 : Int32) (M : sp_Mem) : Option sp_Mem :=
  (sp_ix 96 (a1 + 1)).bind fun j4 => sp_do (sp_setI M 130 j4 (sp_I M 103 23)) fun M5 => some M5
def fX11_readSum (F : Nat) (M : sp_Mem) (a1 : Int32) : Option sp_Mem :=
  (sp_ix 96 a1).bind fun j1 => sp_do (sp_setI M 130 j1 (sp_I M 103 23)) fun M2 => if (sp_I M2 103 19) = 0 then ((fX11_readExpression F M2 0).bind fun M6 => fX11_readSum_j22 F a1 M6) else (fX11_readSum_j22 F a1 M2)
set_option maxRecDepth 100000 in
set_option maxHeartbeats 4000000 in
theorem tX11_readSum_j22 {g : sp_G} {Ω : sp_Mem → Prop} {Q : sp_Qt} {F : Nat} {p : sp_Mem} (hG : sp_Ok Ω)  (hQ : Q none p) (a1 : Int32) (M : sp_Mem) (h : fX11_readSum_j22 F a1 M = some p) : sp_Wp g Ω mX11_readSum 0 0 22 [some (.ref 103), some (.int a1)] [] M Q := by
  unfold fX11_readSum_j22 at h
  refine sp_aload_n dX11_readSum_22 rfl rfl ?_
  refine sp_use (fun ho => ?_)
  have hs := hG.1 _ ho
  refine sp_getR (RX11, TX11, 56) dX11_readSum_23 clX11 (j := 47) (by decide) tw_1262 (wsI_103 hs) (Or.inr ⟨_, rfl⟩) (wsP_103_47 hs) ?_
  refine sp_iload_n dX11_readSum_26 rfl rfl ?_
  refine sp_iconst (v := 1) dX11_readSum_27 (by decide) ?_
  refine sp_iadd dX11_readSum_28 ?_
  refine sp_aload_n dX11_readSum_29 rfl rfl ?_
  refine sp_getI (RX11, TX11, 56) dX11_readSum_30 clX11 (j := 23) (by decide) tw_1238 (wsI_103 hs) (Or.inl rfl) ?_
  obtain ⟨j4, hj4, h⟩ := Option.bind_eq_some_iff.mp h
  obtain ⟨M5, hM5, h⟩ := sp_do_e h
  refine sp_iast2 (j := j4) hG dX11_readSum_33 (wsA_130 hs) (wsN_130 hs) hj4 hM5 ?_
  cases h
  exact sp_vret dX11_readSum_34 rfl (fun _ => hQ)
set_option maxRecDepth 100000 in
set_option maxHeartbeats 4000000 in
theorem tX11_readSum {g : sp_G} {Ω : sp_Mem → Prop} {Q : sp_Qt} {F : Nat} {p : sp_Mem} (hG : sp_Ok Ω) {M : sp_Mem} {a1 : Int32} (h : fX11_readSum F M a1 = some p) (hQ : Q none p) : sp_Mt g Ω mX11_readSum 0 0 [.ref 103, .int a1] M Q := by
  unfold fX11_readSum at h
  refine sp_Mt.of [some (.ref 103), some (.int a1)] (by decide) (by simp [sp_ent, Value.category]) rfl ?_
  refine sp_aload_n dX11_readSum_0 rfl rfl ?_
  refine sp_use (fun ho => ?_)
  have hs := hG.1 _ ho
  refine sp_getR (RX11, TX11, 56) dX11_readSum_1 clX11 (j := 47) (by decide) tw_1262 (wsI_103 hs) (Or.inr ⟨_, rfl⟩) (wsP_103_47 hs) ?_
  refine sp_iload_n dX11_readSum_4 rfl rfl ?_
  refine sp_aload_n dX11_readSum_5 rfl rfl ?_
  refine sp_getI (RX11, TX11, 56) dX11_readSum_6 clX11 (j := 23) (by decide) tw_1238 (wsI_103 hs) (Or.inl rfl) ?_
  obtain ⟨j1, hj1, h⟩ := Option.bind_eq_some_iff.mp h
  obtain ⟨M2, hM2, h⟩ := sp_do_e h
  refine sp_iast2 (j := j1) hG dX11_readSum_9 (wsA_130 hs) (wsN_130 hs) hj1 hM2 ?_
  refine sp_aload_n dX11_readSum_10 rfl rfl ?_
  refine sp_use (fun ho => ?_)
  have hs := hG.1 _ ho
  refine sp_getI (RX11, TX11, 56) dX11_readSum_11 clX11 (j := 19) (by decide) tw_1234 (wsI_103 hs) (Or.inr rfl) ?_
  refine sp_if_ne (tgt := 22) dX11_readSum_14 (by decide) (fun hc3 => ?_) (fun hc3 => ?_)
  · have h := (if_neg hc3).symm.trans h
    refine sp_weak [true, true] [some (.ref 103), some (.int a1)] rfl ?_
    exact tX11_readSum_j22 hG hQ _ _ h
  · have h := (if_pos hc3).symm.trans h
    refine sp_aload_n dX11_readSum_17 rfl rfl ?_
    refine sp_iconst (v := 0) dX11_readSum_18 (by decide) ?_
    obtain ⟨M6, hM6, h⟩ := Option.bind_eq_some_iff.mp h
    refine sp_cV (M1 := M6) (r := none) (o := 103) (st := []) (c := 10) (RX11, TX11, 56) [.int 0] [.int 0, .ref 103] [] dX11_readSum_19 okX11_readExpression tw_1584 tw_1586 tw_50 (by decide) (by decide) rfl (Nat.le_of_ble_eq_true rfl) rfl rfl rfl rfl (wsI_103 hs) (fun Q hQ => tX11_readExpression hG hM6 hQ) ?_
    refine sp_weak [true, true] [some (.ref 103), some (.int a1)] rfl ?_
    exact tX11_readSum_j22 hG hQ _ _ h
def fX11_readOrder_l4 (F : Nat) (kx : Int32 → sp_Mem → Option sp_Mem) : Nat → Int32 → Int32 → sp_Mem → Option sp_Mem
  | 0, _, _, _ => none
  | n + 1, a1, a2, M =>
  if 4 ≤ a2 then (kx a1 M) else ((sp_ix 4 a2).bind fun j2 => sp_do ((if (fX11_isWord M (sp_L M 129 j2)) = 0 then a1 else a2)) fun u4 => (fX11_readOrder_l4 F kx n) u4 (a2 + 1) M)
def fX11_readOrder_l85 (F : Nat) (kx : Int32 → Int32 → sp_Mem → Option sp_Mem) : Nat → Int32 → Int32 → Int32 → sp_Mem → Option sp_Mem
  | 0, _, _, _, _ => none
  | n + 1, a1, a2, a3, M =>
  if 8 ≤ a3 then (kx a1 a2 M) else ((sp_ix 96 (a2 + a3)).bind fun j13 => sp_do (sp_setI M 130 j13 0) fun M14 => (fX11_readOrder_l85 F kx n) a1 a2 (a3 + 1) M14)
def fX11_readOrder_j251 (F : Nat) (a2 : Int32) (M : sp_Mem) : Option sp_Mem :=
  (sp_ix 96 (a2 + 6)).bind fun j28 => sp_do (sp_setI M 130 j28 (sp_I M 103 23)) fun M29 => some M29
def fX11_readOrder_j213 (F : Nat) (a2 : Int32) (M : sp_Mem) : Option sp_Mem :=
  (sp_ix 96 (a2 + 5)).bind fun j25 => sp_do (sp_setI M 130 j25 (sp_I M 103 23)) fun M26 => if (sp_I M26 103 19) = 0 then (if (fX11_isWord M26 294) = 0 then (fX11_readOrder_j251 F a2 M26) else ((fX11_next F M26).bind fun M31 => (fX11_readExpression F M31 1).bind fun M32 => fX11_readOrder_j251 F a2 M32)) else (fX11_readOrder_j251 F a2 M26)
def fX11_readOrder_j165 (F : Nat) (a2 : Int32) (M : sp_Mem) : Option sp_Mem :=
  (sp_ix 96 (a2 + 7)).bind fun j22 => sp_do (sp_setI M 130 j22 1) fun M23 => if (sp_I M23 103 19) = 0 then (if (fX11_isWord M23 21279923) = 0 then (fX11_readOrder_j213 F a2 M23) else ((fX11_next F M23).bind fun M34 => (fX11_number F M34 1 20).bind fun x35 => (sp_ix 96 (a2 + 7)).bind fun j36 => sp_do (sp_setI x35.2 130 j36 x35.1) fun M37 => fX11_readOrder_j213 F a2 M37)) else (fX11_readOrder_j213 F a2 M23)
def fX11_readOrder_j158 (F : Nat) (a2 : Int32) (M : sp_Mem) : Option sp_Mem :=
  (fX11_readSum F M (a2 + 3)).bind fun M39 => fX11_readOrder_j165 F a2 M39
def fX11_readOrder_j152 (F : Nat) (a2 : Int32) (s0 : Int64) (M : sp_Mem) : Option sp_Mem :=
  (fX11_must F M (fX11_isWord M s0)).bind fun M41 => fX11_readOrder_j158 F a2 M41
def fX11_readOrder_j125 (F : Nat) (a1 : Int32) (a2 : Int32) (M : sp_Mem) : Option sp_Mem :=
  if 2 ≤ a1 then (fX11_readOrder_j165 F a2 M) else (if (sp_I M 103 19) = 0 then (if a1 = 0 then (fX11_readOrder_j152 F a2 89 M) else (fX11_readOrder_j152 F a2 655 M)) else (fX11_readOrder_j158 F a2 M))
def fX11_readOrder_j54 (F : Nat) (a1 : Int32) (s0 : Int32) (M : sp_Mem) : Option sp_Mem :=
  (fX11_must F M s0).bind fun M8 => if (sp_I M8 103 19) = 0 then (sp_do ((8 * (sp_I M8 103 21))) fun u10 => sp_do (sp_setI M8 103 21 ((sp_I M8 103 21) + 1)) fun M11 => fX11_readOrder_l85 F (fun b16 b17 M15 => (sp_ix 96 b17).bind fun j18 => sp_do (sp_setI M15 130 j18 b16) fun M19 => if b16 = 3 then (fX11_readOrder_j125 F b16 b17 M19) else ((fX11_readSum F M19 (b17 + 1)).bind fun M42 => fX11_readOrder_j125 F b16 b17 M42)) F a1 u10 0 M11) else (some M8)
def fX11_readOrder_j53 (F : Nat) (a1 : Int32) (M : sp_Mem) : Option sp_Mem :=
  fX11_readOrder_j54 F a1 0 M
def fX11_readOrder (F : Nat) (M : sp_Mem) : Option sp_Mem :=
  fX11_readOrder_l4 F (fun b6 M5 => if b6 = (-1) then (fX11_readOrder_j53 F b6 M5) else (fX11_readOrder_j54 F b6 (if 12 ≤ (sp_I M5 103 21) then 0 else 1) M5)) F (-1) 0 M
set_option maxRecDepth 100000 in
set_option maxHeartbeats 4000000 in
theorem tX11_readOrder_l4 {g : sp_G} {Ω : sp_Mem → Prop} {Q : sp_Qt} {F : Nat} {p : sp_Mem} (hG : sp_Ok Ω)  {kx : Int32 → sp_Mem → Option sp_Mem} (hQ : Q none p) (hx : ∀ (a1 : Int32) (M : sp_Mem), kx a1 M = some p → sp_Wp g Ω mX11_readOrder 0 0 34 [some (.ref 103), some (.int a1), none, none] [] M Q) : ∀ (n : Nat) (a1 : Int32) (a2 : Int32) (M : sp_Mem), fX11_readOrder_l4 F kx n a1 a2 M = some p → sp_Wp g Ω mX11_readOrder 0 0 4 [some (.ref 103), some (.int a1), some (.int a2), none] [] M Q := by
  intro n
  induction n with
  | zero =>
    intro a1 a2 M h
    rw [fX11_readOrder_l4] at h
    cases h
  | succ n ih =>
    intro a1 a2 M h
    rw [fX11_readOrder_l4] at h
    refine sp_iload_n dX11_readOrder_4 rfl rfl ?_
    refine sp_iconst (v := 4) dX11_readOrder_5 (by decide) ?_
    refine sp_icmp_ge (tgt := 34) dX11_readOrder_6 (by decide) (fun hc1 => ?_) (fun hc1 => ?_)
    · have h := (if_pos hc1).symm.trans h
      refine sp_weak [true, true, false, false] [some (.ref 103), some (.int a1), none, none] rfl ?_
      exact hx _ _ h
    · have h := (if_neg hc1).symm.trans h
      refine sp_aload_n dX11_readOrder_9 rfl rfl ?_
      refine sp_aload_n dX11_readOrder_10 rfl rfl ?_
      refine sp_use (fun ho => ?_)
      have hs := hG.1 _ ho
      refine sp_getR (RX11, TX11, 56) dX11_readOrder_11 clX11 (j := 46) (by decide) tw_1261 (wsI_103 hs) (Or.inr ⟨_, rfl⟩) (wsP_103_46 hs) ?_
      refine sp_iload_n dX11_readOrder_14 rfl rfl ?_
      obtain ⟨j2, hj2, h⟩ := Option.bind_eq_some_iff.mp h
      refine sp_lald2 (j := j2) dX11_readOrder_15 (wsA_129 hs) (wsN_129 hs) hj2 ?_
      refine sp_cV (M1 := M) (r := some (.int (fX11_isWord M (sp_L M 129 j2)))) (o := 103) (st := []) (c := 10) (RX11, TX11, 56) [.long (sp_L M 129 j2)] [.long (sp_L M 129 j2), .ref 103] [.int (fX11_isWord M (sp_L M 129 j2))] dX11_readOrder_16 okX11_isWord tw_1576 tw_1578 tw_48 (by decide) (by decide) rfl (Nat.le_of_ble_eq_true rfl) rfl rfl rfl rfl (wsI_103 hs) (fun Q hQ => tX11_isWord hG rfl hQ) ?_
      suffices hj : sp_Wp g Ω mX11_readOrder 0 0 27 [some (.ref 103), none, some (.int a2), none] [.int (if (fX11_isWord M (sp_L M 129 j2)) = 0 then a1 else a2)] M Q by
        refine sp_if_eq (tgt := 26) dX11_readOrder_19 (by decide) (fun hc3 => ?_) (fun hc3 => ?_)
        · refine sp_iload_n dX11_readOrder_26 rfl rfl ?_
          refine sp_weak [true, false, true, false] [some (.ref 103), none, some (.int a2), none] rfl ?_
          simp only [if_pos hc3] at hj
          exact hj
        · refine sp_iload_n dX11_readOrder_22 rfl rfl ?_
          refine sp_goto (tgt := 27) dX11_readOrder_23 (by decide) ?_
          refine sp_weak [true, false, true, false] [some (.ref 103), none, some (.int a2), none] rfl ?_
          simp only [if_neg hc3] at hj
          exact hj
      obtain ⟨u4, hu4, h⟩ := sp_do_e h
      refine sp_topi hu4 ?_
      refine sp_istore_n [some (.ref 103), some (.int u4), some (.int a2), none] dX11_readOrder_27 rfl (by decide) rfl ?_
      refine sp_iinc (v := (a2 + 1)) [some (.ref 103), some (.int u4), some (.int (a2 + 1)), none] dX11_readOrder_28 rfl rfl (by decide) rfl ?_
      refine sp_goto (tgt := 4) dX11_readOrder_31 (by decide) ?_
      refine sp_weak [true, true, true, false] [some (.ref 103), some (.int u4), some (.int (a2 + 1)), none] rfl ?_
      exact ih _ _ _ h
set_option maxRecDepth 100000 in
set_option maxHeartbeats 4000000 in
theorem tX11_readOrder_l85 {g : sp_G} {Ω : sp_Mem → Prop} {Q : sp_Qt} {F : Nat} {p : sp_Mem} (hG : sp_Ok Ω)  {kx : Int32 → Int32 → sp_Mem → Option sp_Mem} (hQ : Q none p) (hx : ∀ (a1 : Int32) (a2 : Int32) (M : sp_Mem), kx a1 a2 M = some p → sp_Wp g Ω mX11_readOrder 0 0 106 [some (.ref 103), some (.int a1), some (.int a2), none] [] M Q) : ∀ (n : Nat) (a1 : Int32) (a2 : Int32) (a3 : Int32) (M : sp_Mem), fX11_readOrder_l85 F kx n a1 a2 a3 M = some p → sp_Wp g Ω mX11_readOrder 0 0 85 [some (.ref 103), some (.int a1), some (.int a2), some (.int a3)] [] M Q := by
  intro n
  induction n with
  | zero =>
    intro a1 a2 a3 M h
    rw [fX11_readOrder_l85] at h
    cases h
  | succ n ih =>
    intro a1 a2 a3 M h
    rw [fX11_readOrder_l85] at h
    refine sp_iload_n dX11_readOrder_85 rfl rfl ?_
    refine sp_bipush (v := 8) dX11_readOrder_86 (by decide) ?_
    refine sp_icmp_ge (tgt := 106) dX11_readOrder_88 (by decide) (fun hc12 => ?_) (fun hc12 => ?_)
    · have h := (if_pos hc12).symm.trans h
      refine sp_weak [true, true, true, false] [some (.ref 103), some (.int a1), some (.int a2), none] rfl ?_
      exact hx _ _ _ h
    · have h := (if_neg hc12).symm.trans h
      refine sp_aload_n dX11_readOrder_91 rfl rfl ?_
      refine sp_use (fun ho => ?_)
      have hs := hG.1 _ ho
      refine sp_getR (RX11, TX11, 56) dX11_readOrder_92 clX11 (j := 47) (by decide) tw_1262 (wsI_103 hs) (Or.inr ⟨_, rfl⟩) (wsP_103_47 hs) ?_
      refine sp_iload_n dX11_readOrder_95 rfl rfl ?_
      refine sp_iload_n dX11_readOrder_96 rfl rfl ?_
      refine sp_iadd dX11_readOrder_97 ?_
      refine sp_iconst (v := 0) dX11_readOrder_98 (by decide) ?_
      obtain ⟨j13, hj13, h⟩ := Option.bind_eq_some_iff.mp h
      obtain ⟨M14, hM14, h⟩ := sp_do_e h
      refine sp_iast2 (j := j13) hG dX11_readOrder_99 (wsA_130 hs) (wsN_130 hs) hj13 hM14 ?_
      refine sp_iinc (v := (a3 + 1)) [some (.ref 103), some (.int a1), some (.int a2), some (.int (a3 + 1))] dX11_readOrder_100 rfl rfl (by decide) rfl ?_
      refine sp_goto (tgt := 85) dX11_readOrder_103 (by decide) ?_
      refine sp_weak [true, true, true, true] [some (.ref 103), some (.int a1), some (.int a2), some (.int (a3 + 1))] rfl ?_
      exact ih _ _ _ _ h
set_option maxRecDepth 100000 in
set_option maxHeartbeats 4000000 in
theorem tX11_readOrder_j251 {g : sp_G} {Ω : sp_Mem → Prop} {Q : sp_Qt} {F : Nat} {p : sp_Mem} (hG : sp_Ok Ω)  (hQ : Q none p) (a2 : Int32) (M : sp_Mem) (h : fX11_readOrder_j251 F a2 M = some p) : sp_Wp g Ω mX11_readOrder 0 0 251 [some (.ref 103), none, some (.int a2), none] [] M Q := by
  unfold fX11_readOrder_j251 at h
  refine sp_aload_n dX11_readOrder_251 rfl rfl ?_
  refine sp_use (fun ho => ?_)
  have hs := hG.1 _ ho
  refine sp_getR (RX11, TX11, 56) dX11_readOrder_252 clX11 (j := 47) (by decide) tw_1262 (wsI_103 hs) (Or.inr ⟨_, rfl⟩) (wsP_103_47 hs) ?_
  refine sp_iload_n dX11_readOrder_255 rfl rfl ?_
  refine sp_bipush (v := 6) dX11_readOrder_256 (by decide) ?_
  refine sp_iadd dX11_readOrder_258 ?_
  refine sp_aload_n dX11_readOrder_259 rfl rfl ?_
  refine sp_getI (RX11, TX11, 56) dX11_readOrder_260 clX11 (j := 23) (by decide) tw_1238 (wsI_103 hs) (Or.inl rfl) ?_
  obtain ⟨j28, hj28, h⟩ := Option.bind_eq_some_iff.mp h
  obtain ⟨M29, hM29, h⟩ := sp_do_e h
  refine sp_iast2 (j := j28) hG dX11_readOrder_263 (wsA_130 hs) (wsN_130 hs) hj28 hM29 ?_
  cases h
  exact sp_vret dX11_readOrder_264 rfl (fun _ => hQ)
set_option maxRecDepth 100000 in
set_option maxHeartbeats 4000000 in
theorem tX11_readOrder_j213 {g : sp_G} {Ω : sp_Mem → Prop} {Q : sp_Qt} {F : Nat} {p : sp_Mem} (hG : sp_Ok Ω)  (hQ : Q none p) (a2 : Int32) (M : sp_Mem) (h : fX11_readOrder_j213 F a2 M = some p) : sp_Wp g Ω mX11_readOrder 0 0 213 [some (.ref 103), none, some (.int a2), none] [] M Q := by
  unfold fX11_readOrder_j213 at h
  refine sp_aload_n dX11_readOrder_213 rfl rfl ?_
  refine sp_use (fun ho => ?_)
  have hs := hG.1 _ ho
  refine sp_getR (RX11, TX11, 56) dX11_readOrder_214 clX11 (j := 47) (by decide) tw_1262 (wsI_103 hs) (Or.inr ⟨_, rfl⟩) (wsP_103_47 hs) ?_
  refine sp_iload_n dX11_readOrder_217 rfl rfl ?_
  refine sp_iconst (v := 5) dX11_readOrder_218 (by decide) ?_
  refine sp_iadd dX11_readOrder_219 ?_
  refine sp_aload_n dX11_readOrder_220 rfl rfl ?_
  refine sp_getI (RX11, TX11, 56) dX11_readOrder_221 clX11 (j := 23) (by decide) tw_1238 (wsI_103 hs) (Or.inl rfl) ?_
  obtain ⟨j25, hj25, h⟩ := Option.bind_eq_some_iff.mp h
  obtain ⟨M26, hM26, h⟩ := sp_do_e h
  refine sp_iast2 (j := j25) hG dX11_readOrder_224 (wsA_130 hs) (wsN_130 hs) hj25 hM26 ?_
  refine sp_aload_n dX11_readOrder_225 rfl rfl ?_
  refine sp_use (fun ho => ?_)
  have hs := hG.1 _ ho
  refine sp_getI (RX11, TX11, 56) dX11_readOrder_226 clX11 (j := 19) (by decide) tw_1234 (wsI_103 hs) (Or.inr rfl) ?_
  refine sp_if_ne (tgt := 251) dX11_readOrder_229 (by decide) (fun hc27 => ?_) (fun hc27 => ?_)
  · have h := (if_neg hc27).symm.trans h
    refine sp_weak [true, false, true, false] [some (.ref 103), none, some (.int a2), none] rfl ?_
    exact tX11_readOrder_j251 hG hQ _ _ h
  · have h := (if_pos hc27).symm.trans h
    refine sp_aload_n dX11_readOrder_232 rfl rfl ?_
    refine sp_ldc2 (v := 294) dX11_readOrder_233 tw_1658 ?_
    refine sp_cV (M1 := M26) (r := some (.int (fX11_isWord M26 294))) (o := 103) (st := []) (c := 10) (RX11, TX11, 56) [.long 294] [.long 294, .ref 103] [.int (fX11_isWord M26 294)] dX11_readOrder_236 okX11_isWord tw_1576 tw_1578 tw_48 (by decide) (by decide) rfl (Nat.le_of_ble_eq_true rfl) rfl rfl rfl rfl (wsI_103 hs) (fun Q hQ => tX11_isWord hG rfl hQ) ?_
    refine sp_if_eq (tgt := 251) dX11_readOrder_239 (by decide) (fun hc30 => ?_) (fun hc30 => ?_)
    · have h := (if_pos hc30).symm.trans h
      refine sp_weak [true, false, true, false] [some (.ref 103), none, some (.int a2), none] rfl ?_
      exact tX11_readOrder_j251 hG hQ _ _ h
    · have h := (if_neg hc30).symm.trans h
      refine sp_aload_n dX11_readOrder_242 rfl rfl ?_
      obtain ⟨M31, hM31, h⟩ := Option.bind_eq_some_iff.mp h
      refine sp_cV (M1 := M31) (r := none) (o := 103) (st := []) (c := 10) (RX11, TX11, 56) [] [.ref 103] [] dX11_readOrder_243 okX11_next tw_1557 tw_1559 tw_46 (by decide) (by decide) rfl (Nat.le_of_ble_eq_true rfl) rfl rfl rfl rfl (wsI_103 hs) (fun Q hQ => tX11_next hG hM31 hQ) ?_
      refine sp_aload_n dX11_readOrder_246 rfl rfl ?_
      refine sp_iconst (v := 1) dX11_readOrder_247 (by decide) ?_
      refine sp_use (fun ho => ?_)
      have hs := hG.1 _ ho
      obtain ⟨M32, hM32, h⟩ := Option.bind_eq_some_iff.mp h
      refine sp_cV (M1 := M32) (r := none) (o := 103) (st := []) (c := 10) (RX11, TX11, 56) [.int 1] [.int 1, .ref 103] [] dX11_readOrder_248 okX11_readExpression tw_1584 tw_1586 tw_50 (by decide) (by decide) rfl (Nat.le_of_ble_eq_true rfl) rfl rfl rfl rfl (wsI_103 hs) (fun Q hQ => tX11_readExpression hG hM32 hQ) ?_
      refine sp_weak [true, false, true, false] [some (.ref 103), none, some (.int a2), none] rfl ?_
      exact tX11_readOrder_j251 hG hQ _ _ h
set_option maxRecDepth 100000 in
set_option maxHeartbeats 4000000 in
theorem tX11_readOrder_j165 {g : sp_G} {Ω : sp_Mem → Prop} {Q : sp_Qt} {F : Nat} {p : sp_Mem} (hG : sp_Ok Ω)  (hQ : Q none p) (a2 : Int32) (M : sp_Mem) (h : fX11_readOrder_j165 F a2 M = some p) : sp_Wp g Ω mX11_readOrder 0 0 165 [some (.ref 103), none, some (.int a2), none] [] M Q := by
  unfold fX11_readOrder_j165 at h
  refine sp_aload_n dX11_readOrder_165 rfl rfl ?_
  refine sp_use (fun ho => ?_)
  have hs := hG.1 _ ho
  refine sp_getR (RX11, TX11, 56) dX11_readOrder_166 clX11 (j := 47) (by decide) tw_1262 (wsI_103 hs) (Or.inr ⟨_, rfl⟩) (wsP_103_47 hs) ?_
  refine sp_iload_n dX11_readOrder_169 rfl rfl ?_
  refine sp_bipush (v := 7) dX11_readOrder_170 (by decide) ?_
  refine sp_iadd dX11_readOrder_172 ?_
  refine sp_iconst (v := 1) dX11_readOrder_173 (by decide) ?_
  obtain ⟨j22, hj22, h⟩ := Option.bind_eq_some_iff.mp h
  obtain ⟨M23, hM23, h⟩ := sp_do_e h
  refine sp_iast2 (j := j22) hG dX11_readOrder_174 (wsA_130 hs) (wsN_130 hs) hj22 hM23 ?_
  refine sp_aload_n dX11_readOrder_175 rfl rfl ?_
  refine sp_use (fun ho => ?_)
  have hs := hG.1 _ ho
  refine sp_getI (RX11, TX11, 56) dX11_readOrder_176 clX11 (j := 19) (by decide) tw_1234 (wsI_103 hs) (Or.inr rfl) ?_
  refine sp_if_ne (tgt := 213) dX11_readOrder_179 (by decide) (fun hc24 => ?_) (fun hc24 => ?_)
  · have h := (if_neg hc24).symm.trans h
    refine sp_weak [true, false, true, false] [some (.ref 103), none, some (.int a2), none] rfl ?_
    exact tX11_readOrder_j213 hG hQ _ _ h
  · have h := (if_pos hc24).symm.trans h
    refine sp_aload_n dX11_readOrder_182 rfl rfl ?_
    refine sp_ldc2 (v := 21279923) dX11_readOrder_183 tw_1855 ?_
    refine sp_cV (M1 := M23) (r := some (.int (fX11_isWord M23 21279923))) (o := 103) (st := []) (c := 10) (RX11, TX11, 56) [.long 21279923] [.long 21279923, .ref 103] [.int (fX11_isWord M23 21279923)] dX11_readOrder_186 okX11_isWord tw_1576 tw_1578 tw_48 (by decide) (by decide) rfl (Nat.le_of_ble_eq_true rfl) rfl rfl rfl rfl (wsI_103 hs) (fun Q hQ => tX11_isWord hG rfl hQ) ?_
    refine sp_if_eq (tgt := 213) dX11_readOrder_189 (by decide) (fun hc33 => ?_) (fun hc33 => ?_)
    · have h := (if_pos hc33).symm.trans h
      refine sp_weak [true, false, true, false] [some (.ref 103), none, some (.int a2), none] rfl ?_
      exact tX11_readOrder_j213 hG hQ _ _ h
    · have h := (if_neg hc33).symm.trans h
      refine sp_aload_n dX11_readOrder_192 rfl rfl ?_
      obtain ⟨M34, hM34, h⟩ := Option.bind_eq_some_iff.mp h
      refine sp_cV (M1 := M34) (r := none) (o := 103) (st := []) (c := 10) (RX11, TX11, 56) [] [.ref 103] [] dX11_readOrder_193 okX11_next tw_1557 tw_1559 tw_46 (by decide) (by decide) rfl (Nat.le_of_ble_eq_true rfl) rfl rfl rfl rfl (wsI_103 hs) (fun Q hQ => tX11_next hG hM34 hQ) ?_
      refine sp_aload_n dX11_readOrder_196 rfl rfl ?_
      refine sp_use (fun ho => ?_)
      have hs := hG.1 _ ho
      refine sp_getR (RX11, TX11, 56) dX11_readOrder_197 clX11 (j := 47) (by decide) tw_1262 (wsI_103 hs) (Or.inr ⟨_, rfl⟩) (wsP_103_47 hs) ?_
      refine sp_iload_n dX11_readOrder_200 rfl rfl ?_
      refine sp_bipush (v := 7) dX11_readOrder_201 (by decide) ?_
      refine sp_iadd dX11_readOrder_203 ?_
      refine sp_aload_n dX11_readOrder_204 rfl rfl ?_
      refine sp_lconst (v := 1) dX11_readOrder_205 (by decide) ?_
      refine sp_ldc2 (v := 20) dX11_readOrder_206 tw_1650 ?_
      obtain ⟨x35, hx35, h⟩ := Option.bind_eq_some_iff.mp h
      refine sp_cV (M1 := x35.2) (r := some (.int x35.1)) (o := 103) (st := [.int (a2 + 7), .ref 130]) (c := 10) (RX11, TX11, 56) [.long 1, .long 20] [.long 20, .long 1, .ref 103, .int (a2 + 7), .ref 130] [.int x35.1, .int (a2 + 7), .ref 130] dX11_readOrder_209 okX11_number tw_1627 tw_1629 tw_60 (by decide) (by decide) rfl (Nat.le_of_ble_eq_true rfl) rfl rfl rfl rfl (wsI_103 hs) (fun Q hQ => tX11_number hG hx35 hQ) ?_
      refine sp_use (fun ho => ?_)
      have hs := hG.1 _ ho
      obtain ⟨j36, hj36, h⟩ := Option.bind_eq_some_iff.mp h
      obtain ⟨M37, hM37, h⟩ := sp_do_e h
      refine sp_iast2 (j := j36) hG dX11_readOrder_212 (wsA_130 hs) (wsN_130 hs) hj36 hM37 ?_
      refine sp_weak [true, false, true, false] [some (.ref 103), none, some (.int a2), none] rfl ?_
      exact tX11_readOrder_j213 hG hQ _ _ h
set_option maxRecDepth 100000 in
set_option maxHeartbeats 4000000 in
theorem tX11_readOrder_j158 {g : sp_G} {Ω : sp_Mem → Prop} {Q : sp_Qt} {F : Nat} {p : sp_Mem} (hG : sp_Ok Ω)  (hQ : Q none p) (a2 : Int32) (M : sp_Mem) (h : fX11_readOrder_j158 F a2 M = some p) : sp_Wp g Ω mX11_readOrder 0 0 158 [some (.ref 103), none, some (.int a2), none] [] M Q := by
  unfold fX11_readOrder_j158 at h
  refine sp_aload_n dX11_readOrder_158 rfl rfl ?_
  refine sp_iload_n dX11_readOrder_159 rfl rfl ?_
  refine sp_iconst (v := 3) dX11_readOrder_160 (by decide) ?_
  refine sp_iadd dX11_readOrder_161 ?_
  refine sp_use (fun ho => ?_)
  have hs := hG.1 _ ho
  obtain ⟨M39, hM39, h⟩ := Option.bind_eq_some_iff.mp h
  refine sp_cV (M1 := M39) (r := none) (o := 103) (st := []) (c := 10) (RX11, TX11, 56) [.int (a2 + 3)] [.int (a2 + 3), .ref 103] [] dX11_readOrder_162 okX11_readSum tw_1849 tw_1851 tw_91 (by decide) (by decide) rfl (Nat.le_of_ble_eq_true rfl) rfl rfl rfl rfl (wsI_103 hs) (fun Q hQ => tX11_readSum hG hM39 hQ) ?_
  refine sp_weak [true, false, true, false] [some (.ref 103), none, some (.int a2), none] rfl ?_
  exact tX11_readOrder_j165 hG hQ _ _ h
set_option maxRecDepth 100000 in
set_option maxHeartbeats 4000000 in
theorem tX11_readOrder_j152 {g : sp_G} {Ω : sp_Mem → Prop} {Q : sp_Qt} {F : Nat} {p : sp_Mem} (hG : sp_Ok Ω)  (hQ : Q none p) (a2 : Int32) (s0 : Int64) (M : sp_Mem) (h : fX11_readOrder_j152 F a2 s0 M = some p) : sp_Wp g Ω mX11_readOrder 0 0 152 [some (.ref 103), none, some (.int a2), none] [.long s0, .ref 103, .ref 103] M Q := by
  unfold fX11_readOrder_j152 at h
  refine sp_use (fun ho => ?_)
  have hs := hG.1 _ ho
  refine sp_cV (M1 := M) (r := some (.int (fX11_isWord M s0))) (o := 103) (st := [.ref 103]) (c := 10) (RX11, TX11, 56) [.long s0] [.long s0, .ref 103, .ref 103] [.int (fX11_isWord M s0), .ref 103] dX11_readOrder_152 okX11_isWord tw_1576 tw_1578 tw_48 (by decide) (by decide) rfl (Nat.le_of_ble_eq_true rfl) rfl rfl rfl rfl (wsI_103 hs) (fun Q hQ => tX11_isWord hG rfl hQ) ?_
  obtain ⟨M41, hM41, h⟩ := Option.bind_eq_some_iff.mp h
  refine sp_cV (M1 := M41) (r := none) (o := 103) (st := []) (c := 10) (RX11, TX11, 56) [.int (fX11_isWord M s0)] [.int (fX11_isWord M s0), .ref 103] [] dX11_readOrder_155 okX11_must tw_1580 tw_1582 tw_49 (by decide) (by decide) rfl (Nat.le_of_ble_eq_true rfl) rfl rfl rfl rfl (wsI_103 hs) (fun Q hQ => tX11_must hG hM41 hQ) ?_
  refine sp_weak [true, false, true, false] [some (.ref 103), none, some (.int a2), none] rfl ?_
  exact tX11_readOrder_j158 hG hQ _ _ h
set_option maxRecDepth 100000 in
set_option maxHeartbeats 4000000 in
theorem tX11_readOrder_j125 {g : sp_G} {Ω : sp_Mem → Prop} {Q : sp_Qt} {F : Nat} {p : sp_Mem} (hG : sp_Ok Ω)  (hQ : Q none p) (a1 : Int32) (a2 : Int32) (M : sp_Mem) (h : fX11_readOrder_j125 F a1 a2 M = some p) : sp_Wp g Ω mX11_readOrder 0 0 125 [some (.ref 103), some (.int a1), some (.int a2), none] [] M Q := by
  unfold fX11_readOrder_j125 at h
  refine sp_iload_n dX11_readOrder_125 rfl rfl ?_
  refine sp_iconst (v := 2) dX11_readOrder_126 (by decide) ?_
  refine sp_icmp_ge (tgt := 165) dX11_readOrder_127 (by decide) (fun hc21 => ?_) (fun hc21 => ?_)
  · have h := (if_pos hc21).symm.trans h
    refine sp_weak [true, false, true, false] [some (.ref 103), none, some (.int a2), none] rfl ?_
    exact tX11_readOrder_j165 hG hQ _ _ h
  · have h := (if_neg hc21).symm.trans h
    refine sp_aload_n dX11_readOrder_130 rfl rfl ?_
    refine sp_use (fun ho => ?_)
    have hs := hG.1 _ ho
    refine sp_getI (RX11, TX11, 56) dX11_readOrder_131 clX11 (j := 19) (by decide) tw_1234 (wsI_103 hs) (Or.inr rfl) ?_
    refine sp_if_ne (tgt := 158) dX11_readOrder_134 (by decide) (fun hc38 => ?_) (fun hc38 => ?_)
    · have h := (if_neg hc38).symm.trans h
      refine sp_weak [true, false, true, false] [some (.ref 103), none, some (.int a2), none] rfl ?_
      exact tX11_readOrder_j158 hG hQ _ _ h
    · have h := (if_pos hc38).symm.trans h
      refine sp_aload_n dX11_readOrder_137 rfl rfl ?_
      refine sp_aload_n dX11_readOrder_138 rfl rfl ?_
      refine sp_iload_n dX11_readOrder_139 rfl rfl ?_
      refine sp_if_ne (tgt := 149) dX11_readOrder_140 (by decide) (fun hc40 => ?_) (fun hc40 => ?_)
      · have h := (if_neg hc40).symm.trans h
        refine sp_ldc2 (v := 655) dX11_readOrder_149 tw_1854 ?_
        refine sp_weak [true, false, true, false] [some (.ref 103), none, some (.int a2), none] rfl ?_
        exact tX11_readOrder_j152 hG hQ _ _ _ h
      · have h := (if_pos hc40).symm.trans h
        refine sp_ldc2 (v := 89) dX11_readOrder_143 tw_1853 ?_
        refine sp_goto (tgt := 152) dX11_readOrder_146 (by decide) ?_
        refine sp_weak [true, false, true, false] [some (.ref 103), none, some (.int a2), none] rfl ?_
        exact tX11_readOrder_j152 hG hQ _ _ _ h
set_option maxRecDepth 100000 in
set_option maxHeartbeats 4000000 in
theorem tX11_readOrder_j54 {g : sp_G} {Ω : sp_Mem → Prop} {Q : sp_Qt} {F : Nat} {p : sp_Mem} (hG : sp_Ok Ω)  (hQ : Q none p) (a1 : Int32) (s0 : Int32) (M : sp_Mem) (h : fX11_readOrder_j54 F a1 s0 M = some p) : sp_Wp g Ω mX11_readOrder 0 0 54 [some (.ref 103), some (.int a1), none, none] [.int s0, .ref 103] M Q := by
  unfold fX11_readOrder_j54 at h
  refine sp_use (fun ho => ?_)
  have hs := hG.1 _ ho
  obtain ⟨M8, hM8, h⟩ := Option.bind_eq_some_iff.mp h
  refine sp_cV (M1 := M8) (r := none) (o := 103) (st := []) (c := 10) (RX11, TX11, 56) [.int s0] [.int s0, .ref 103] [] dX11_readOrder_54 okX11_must tw_1580 tw_1582 tw_49 (by decide) (by decide) rfl (Nat.le_of_ble_eq_true rfl) rfl rfl rfl rfl (wsI_103 hs) (fun Q hQ => tX11_must hG hM8 hQ) ?_
  refine sp_aload_n dX11_readOrder_57 rfl rfl ?_
  refine sp_use (fun ho => ?_)
  have hs := hG.1 _ ho
  refine sp_getI (RX11, TX11, 56) dX11_readOrder_58 clX11 (j := 19) (by decide) tw_1234 (wsI_103 hs) (Or.inr rfl) ?_
  refine sp_if_eq (tgt := 65) dX11_readOrder_61 (by decide) (fun hc9 => ?_) (fun hc9 => ?_)
  · have h := (if_pos hc9).symm.trans h
    refine sp_bipush (v := 8) dX11_readOrder_65 (by decide) ?_
    refine sp_aload_n dX11_readOrder_67 rfl rfl ?_
    refine sp_getI (RX11, TX11, 56) dX11_readOrder_68 clX11 (j := 21) (by decide) tw_1236 (wsI_103 hs) (Or.inl rfl) ?_
    refine sp_imul dX11_readOrder_71 ?_
    obtain ⟨u10, hu10, h⟩ := sp_do_e h
    refine sp_topi hu10 ?_
    refine sp_istore_n [some (.ref 103), some (.int a1), some (.int u10), none] dX11_readOrder_72 rfl (by decide) rfl ?_
    refine sp_aload_n dX11_readOrder_73 rfl rfl ?_
    refine sp_dup dX11_readOrder_74 rfl ?_
    refine sp_getI (RX11, TX11, 56) dX11_readOrder_75 clX11 (j := 21) (by decide) tw_1236 (wsI_103 hs) (Or.inl rfl) ?_
    refine sp_iconst (v := 1) dX11_readOrder_78 (by decide) ?_
    refine sp_iadd dX11_readOrder_79 ?_
    obtain ⟨M11, hM11, h⟩ := sp_do_e h
    refine sp_putI2 (RX11, TX11, 56) hG dX11_readOrder_80 clX11 (j := 21) (by decide) tw_1236 rfl (Or.inl rfl) (wsI_103 hs) hM11 ?_
    refine sp_iconst (v := 0) dX11_readOrder_83 (by decide) ?_
    refine sp_istore_n [some (.ref 103), some (.int a1), some (.int u10), some (.int 0)] dX11_readOrder_84 rfl (by decide) rfl ?_
    refine sp_weak [true, true, true, true] [some (.ref 103), some (.int a1), some (.int u10), some (.int 0)] rfl ?_
    refine tX11_readOrder_l85 hG hQ (fun b16 b17 M15 h => ?_) F _ _ _ _ h
    refine sp_aload_n dX11_readOrder_106 rfl rfl ?_
    refine sp_use (fun ho => ?_)
    have hs := hG.1 _ ho
    refine sp_getR (RX11, TX11, 56) dX11_readOrder_107 clX11 (j := 47) (by decide) tw_1262 (wsI_103 hs) (Or.inr ⟨_, rfl⟩) (wsP_103_47 hs) ?_
    refine sp_iload_n dX11_readOrder_110 rfl rfl ?_
    refine sp_iload_n dX11_readOrder_111 rfl rfl ?_
    obtain ⟨j18, hj18, h⟩ := Option.bind_eq_some_iff.mp h
    obtain ⟨M19, hM19, h⟩ := sp_do_e h
    refine sp_iast2 (j := j18) hG dX11_readOrder_112 (wsA_130 hs) (wsN_130 hs) hj18 hM19 ?_
    refine sp_iload_n dX11_readOrder_113 rfl rfl ?_
    refine sp_iconst (v := 3) dX11_readOrder_114 (by decide) ?_
    refine sp_icmp_eq (tgt := 125) dX11_readOrder_115 (by decide) (fun hc20 => ?_) (fun hc20 => ?_)
    · have h := (if_pos hc20).symm.trans h
      refine sp_weak [true, true, true, false] [some (.ref 103), some (.int b16), some (.int b17), none] rfl ?_
      exact tX11_readOrder_j125 hG hQ _ _ _ h
    · have h := (if_neg hc20).symm.trans h
      refine sp_aload_n dX11_readOrder_118 rfl rfl ?_
      refine sp_iload_n dX11_readOrder_119 rfl rfl ?_
      refine sp_iconst (v := 1) dX11_readOrder_120 (by decide) ?_
      refine sp_iadd dX11_readOrder_121 ?_
      refine sp_use (fun ho => ?_)
      have hs := hG.1 _ ho
      obtain ⟨M42, hM42, h⟩ := Option.bind_eq_some_iff.mp h
      refine sp_cV (M1 := M42) (r := none) (o := 103) (st := []) (c := 10) (RX11, TX11, 56) [.int (b17 + 1)] [.int (b17 + 1), .ref 103] [] dX11_readOrder_122 okX11_readSum tw_1849 tw_1851 tw_91 (by decide) (by decide) rfl (Nat.le_of_ble_eq_true rfl) rfl rfl rfl rfl (wsI_103 hs) (fun Q hQ => tX11_readSum hG hM42 hQ) ?_
      refine sp_weak [true, true, true, false] [some (.ref 103), some (.int b16), some (.int b17), none] rfl ?_
      exact tX11_readOrder_j125 hG hQ _ _ _ h
  · have h := (if_neg hc9).symm.trans h
    cases h
    exact sp_vret dX11_readOrder_64 rfl (fun _ => hQ)
set_option maxRecDepth 100000 in
set_option maxHeartbeats 4000000 in
theorem tX11_readOrder_j53 {g : sp_G} {Ω : sp_Mem → Prop} {Q : sp_Qt} {F : Nat} {p : sp_Mem} (hG : sp_Ok Ω)  (hQ : Q none p) (a1 : Int32) (M : sp_Mem) (h : fX11_readOrder_j53 F a1 M = some p) : sp_Wp g Ω mX11_readOrder 0 0 53 [some (.ref 103), some (.int a1), none, none] [.ref 103] M Q := by
  unfold fX11_readOrder_j53 at h
  refine sp_iconst (v := 0) dX11_readOrder_53 (by decide) ?_
  refine sp_weak [true, true, false, false] [some (.ref 103), some (.int a1), none, none] rfl ?_
  exact tX11_readOrder_j54 hG hQ _ _ _ h
set_option maxRecDepth 100000 in
set_option maxHeartbeats 4000000 in
theorem tX11_readOrder {g : sp_G} {Ω : sp_Mem → Prop} {Q : sp_Qt} {F : Nat} {p : sp_Mem} (hG : sp_Ok Ω) {M : sp_Mem} (h : fX11_readOrder F M = some p) (hQ : Q none p) : sp_Mt g Ω mX11_readOrder 0 0 [.ref 103] M Q := by
  unfold fX11_readOrder at h
  refine sp_Mt.of [some (.ref 103), none, none, none] (by decide) (by simp [sp_ent, Value.category]) rfl ?_
  refine sp_iconst (v := (-1)) dX11_readOrder_0 (by decide) ?_
  refine sp_istore_n [some (.ref 103), some (.int (-1)), none, none] dX11_readOrder_1 rfl (by decide) rfl ?_
  refine sp_iconst (v := 0) dX11_readOrder_2 (by decide) ?_
  refine sp_istore_n [some (.ref 103), some (.int (-1)), some (.int 0), none] dX11_readOrder_3 rfl (by decide) rfl ?_
  refine sp_weak [true, true, true, false] [some (.ref 103), some (.int (-1)), some (.int 0), none] rfl ?_
  refine tX11_readOrder_l4 hG hQ (fun b6 M5 h => ?_) F _ _ _ h
  refine sp_aload_n dX11_readOrder_34 rfl rfl ?_
  refine sp_iload_n dX11_readOrder_35 rfl rfl ?_
  refine sp_iconst (v := (-1)) dX11_readOrder_36 (by decide) ?_
  refine sp_icmp_eq (tgt := 53) dX11_readOrder_37 (by decide) (fun hc7 => ?_) (fun hc7 => ?_)
  · have h := (if_pos hc7).symm.trans h
    refine sp_weak [true, true, false, false] [some (.ref 103), some (.int b6), none, none] rfl ?_
    exact tX11_readOrder_j53 hG hQ _ _ h
  · have h := (if_neg hc7).symm.trans h
    refine sp_aload_n dX11_readOrder_40 rfl rfl ?_
    refine sp_use (fun ho => ?_)
    have hs := hG.1 _ ho
    refine sp_getI (RX11, TX11, 56) dX11_readOrder_41 clX11 (j := 21) (by decide) tw_1236 (wsI_103 hs) (Or.inl rfl) ?_
    refine sp_bipush (v := 12) dX11_readOrder_44 (by decide) ?_
    suffices hj : sp_Wp g Ω mX11_readOrder 0 0 54 [some (.ref 103), some (.int b6), none, none] [.int (if 12 ≤ (sp_I M5 103 21) then 0 else 1), .ref 103] M5 Q by
      refine sp_icmp_ge (tgt := 53) dX11_readOrder_46 (by decide) (fun hc43 => ?_) (fun hc43 => ?_)
      · refine sp_iconst (v := 0) dX11_readOrder_53 (by decide) ?_
        simp only [if_pos hc43] at hj
        exact hj
      · refine sp_iconst (v := 1) dX11_readOrder_49 (by decide) ?_
        refine sp_goto (tgt := 54) dX11_readOrder_50 (by decide) ?_
        simp only [if_neg hc43] at hj
        exact hj
    refine sp_weak [true, true, false, false] [some (.ref 103), some (.int b6), none, none] rfl ?_
    exact tX11_readOrder_j54 hG hQ _ _ _ h
