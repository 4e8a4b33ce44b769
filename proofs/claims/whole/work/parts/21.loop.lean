/-- what is to be shown of the plain functions: class and reference answer alike, step by step -/
def sp_Pure (F : Nat) (Inv : Nat → sp_Mem → Prop) : Prop := Inv 0 mm_311 ∧ (∀ k M, Inv k M → Inv (k + 1) M) ∧ (∀ M x, fX10_law F M = some x → sp_n x.1.2 = sp_n M + x.2.1) ∧ ∀ k M, k < 512 → Inv k M → (∀ w1 : Int32, ∀ w2 : Int32, ∀ w3 : Int32, ∃ p, gL_0 F M w1 w2 w3 = some p ∧ Inv (k + 1) p) ∧ (∀ w1 : Int32, ∀ w2 : Int32, ∃ p, gL_1 F M w1 w2 = some p ∧ Inv (k + 1) p) ∧ (∀ w1 : Int32, ∀ w2 : Int32, ∃ p, gL_2 F M w1 w2 = some p ∧ Inv (k + 1) p) ∧ (∀ w1 : Int32, ∀ w2 : Int32, ∃ p, gL_3 F M w1 w2 = some p ∧ Inv (k + 1) p) ∧ (∀ w1 : Int32, ∀ w2 : Int32, ∃ p, gL_4 F M w1 w2 = some p ∧ Inv (k + 1) p) ∧ (∀ w1 : Int32, ∀ w2 : Int32, ∀ w3 : Int32, ∃ p, gL_5 F M w1 w2 w3 = some p ∧ Inv (k + 1) p) ∧ (∀ w1 : Int32, ∃ p, gL_6 F M w1 = some p ∧ Inv (k + 1) p) ∧ (∀ w1 : Int32, ∀ w2 : Int32, ∃ p, gL_7 F M w1 w2 = some p ∧ Inv (k + 1) p) ∧ (∀ w1 : Int32, ∀ w2 : Int32, ∀ w3 : Int32, ∀ w4 : Int32, ∀ w5 : Int32, ∃ p, gL_8 F M w1 w2 w3 w4 w5 = some p ∧ Inv (k + 1) p) ∧ (∀ w1 : Int32, ∃ p, gL_9 F M w1 = some p ∧ Inv (k + 1) p) ∧ (∃ p, gL_10 F M  = some p ∧ Inv (k + 1) p) ∧ (∃ p, gL_11 F M  = some p ∧ Inv (k + 1) p) ∧ (∃ p, gL_12 F M = some p ∧ p.2.1 ≤ 3 ∧ p.2.2 ≤ 464 ∧ Inv (k + 1) p.1) ∧ (∃ p, gL_13 F M  = some p ∧ Inv (k + 1) p) ∧ (∃ p, gL_14 F M  = some p ∧ Inv (k + 1) p) ∧ (∃ p, gL_15 F M  = some p ∧ Inv (k + 1) p) ∧ (∀ w1 : Int32, ∃ p, gL_16 F M w1 = some p ∧ Inv (k + 1) p) ∧ (∀ w1 : Int32, ∀ w2 : Int32, ∃ p, gL_17 F M w1 w2 = some p ∧ Inv (k + 1) p) ∧ (∀ w1 : Int32, ∃ p, gL_18 F M w1 = some p ∧ Inv (k + 1) p) ∧ (∀ w1 : Int32, ∀ w2 : Int32, ∃ p, gL_19 F M w1 w2 = some p ∧ Inv (k + 1) p) ∧ (∃ p, gL_20 F M  = some p ∧ Inv (k + 1) p) ∧ (∃ p, gL_21 F M  = some p ∧ Inv (k + 1) p) ∧ (∀ w1 : Int32, ∀ w2 : Int32, ∃ p, gL_22 F M w1 w2 = some p ∧ Inv (k + 1) p) ∧ (∀ w1 : Int32, ∀ w2 : Int32, ∃ p, gL_23 F M w1 w2 = some p ∧ Inv (k + 1) p) ∧ (∀ w1 : Int32, ∀ w2 : Int32, ∃ p, gL_24 F M w1 w2 = some p ∧ Inv (k + 1) p) ∧ (∀ w1 : Int32, ∀ w2 : Int32, ∃ p, gL_25 F M w1 w2 = some p ∧ Inv (k + 1) p) ∧ (∃ p, gL_26 F M  = some p ∧ Inv (k + 1) p) ∧ (∃ p, gL_27 F M  = some p ∧ Inv (k + 1) p) ∧ (∀ w1 : Int32, ∃ p, gL_28 F M w1 = some p ∧ Inv (k + 1) p) ∧ (∀ w1 : Int32, ∃ p, gL_29 F M w1 = some p ∧ Inv (k + 1) p) ∧ (∀ w1 : Int32, ∃ p, gL_30 F M w1 = some p ∧ Inv (k + 1) p) ∧ (∀ w1 : Int32, ∀ w2 : Int32, ∃ p, gL_31 F M w1 w2 = some p ∧ Inv (k + 1) p) ∧ (∀ w1 : Int32, ∃ p, gL_32 F M w1 = some p ∧ Inv (k + 1) p) ∧ (∀ w1 : Int32, ∀ w2 : Int32, ∀ w3 : Int32, ∃ p, gL_33 F M w1 w2 w3 = some p ∧ Inv (k + 1) p) ∧ (∀ w1 : Int32, ∀ w2 : Int32, ∃ p, gL_34 F M w1 w2 = some p ∧ Inv (k + 1) p) ∧ (∀ w1 : Int32, ∀ w2 : Int32, ∃ p, gL_35 F M w1 w2 = some p ∧ Inv (k + 1) p) ∧ (∀ w1 : Int32, ∀ w2 : Int32, ∃ p, gL_36 F M w1 w2 = some p ∧ Inv (k + 1) p) ∧ (∀ w1 : Int32, ∀ w2 : Int32, ∃ p, gL_37 F M w1 w2 = some p ∧ Inv (k + 1) p) ∧ (∀ w1 : Int32, ∃ p, gL_38 F M w1 = some p ∧ Inv (k + 1) p) ∧ (∀ w1 : Int32, ∃ p, gL_39 F M w1 = some p ∧ Inv (k + 1) p) ∧ (∀ w1 : Int32, ∃ p, gL_40 F M w1 = some p ∧ Inv (k + 1) p) ∧ (∃ p, gL_41 F M  = some p ∧ Inv (k + 1) p)
set_option maxRecDepth 100000 in
set_option maxHeartbeats 4000000 in
theorem law_loop {g : sp_G} {Q : sp_Qt} {F : Nat} {Inv : Nat → sp_Mem → Prop} (hG : sp_Ok sp_WS) (hlen : sp_sl g ≤ 3072) (hP : sp_Pure F Inv) (hQ : ∀ M, Q (some (.int 1)) M) : ∀ (r k : Nat) (M : sp_Mem), sp_sl g < 6 * (k + r) + 6 → k + r ≤ 512 → Inv k M → sp_Wp g sp_WS mL_law (3 * r) (464 * r) 18 [some (.ref (1000100 + 101)), some (.ref 0), some (.ref 103), some (.int (nI (6 * k)))] [] M Q := by
  intro r
  induction r with
  | zero =>
    intro k M h1 h2 hI
    refine sp_iload_n dL_law_18 rfl rfl ?_
    refine sp_aload_n dL_law_19 rfl rfl ?_
    refine sp_slenS dL_law_20 rfl ?_
    refine sp_bipush (v := 6) dL_law_21 (by decide) ?_
    refine sp_isub dL_law_23 ?_
    refine sp_icmp_gt (tgt := 1339) dL_law_24 (by decide) (fun hc => ?_) (fun hc => ?_)
    · refine sp_iconst (v := 1) dL_law_1339 (by decide) ?_
      exact sp_iret dL_law_1340 (ty := .boolean) rfl (by decide) (fun _ => hQ M)
    · exfalso
      apply hc
      rw [Int32.lt_iff_toInt_lt, show (6 : Int32) = nI 6 from rfl]
      have e1 : (nI (sp_sl g) - nI 6).toInt = (sp_sl g : Int) - 6 := pk_sub_toInt (by omega) (by omega)
      have e2 : (nI (6 * k)).toInt = ((6 * k : Nat) : Int) := nI_toInt (by omega)
      show (nI (sp_sl g) - nI 6).toInt < (nI (6 * k)).toInt
      rw [e1, e2]
      omega
  | succ r ih =>
    intro k M h1 h2 hI
    refine sp_iload_n dL_law_18 rfl rfl ?_
    refine sp_aload_n dL_law_19 rfl rfl ?_
    refine sp_slenS dL_law_20 rfl ?_
    refine sp_bipush (v := 6) dL_law_21 (by decide) ?_
    refine sp_isub dL_law_23 ?_
    refine sp_icmp_gt (tgt := 1339) dL_law_24 (by decide) (fun hc => ?_) (fun hc => ?_)
    · refine sp_iconst (v := 1) dL_law_1339 (by decide) ?_
      exact sp_iret dL_law_1340 (ty := .boolean) rfl (by decide) (fun _ => hQ M)
    have e1 : (nI (sp_sl g) - nI 6).toInt = (sp_sl g : Int) - 6 := pk_sub_toInt (by omega) (by omega)
    have e2 : (nI (6 * k)).toInt = ((6 * k : Nat) : Int) := nI_toInt (by omega)
    have hle : 6 * k + 6 ≤ sp_sl g := by
      have h3 : ¬ (nI (sp_sl g) - nI 6) < nI (6 * k) := hc
      rw [Int32.lt_iff_toInt_lt, e1, e2] at h3
      omega
    have hin : ∀ d : Nat, d < 6 → vp_in (nI (6 * k) + nI d) (sp_sl g) := fun d hd => by
      rw [nI_add]
      exact vp_in_nI (by omega) (by omega)
    have i1 : vp_in (nI (6 * k) + 1) (sp_sl g) := hin 1 (by decide)
    have i2 : vp_in (nI (6 * k) + 2) (sp_sl g) := hin 2 (by decide)
    have i3 : vp_in (nI (6 * k) + 3) (sp_sl g) := hin 3 (by decide)
    have i4 : vp_in (nI (6 * k) + 4) (sp_sl g) := hin 4 (by decide)
    have i5 : vp_in (nI (6 * k) + 5) (sp_sl g) := hin 5 (by decide)
    refine sp_aload_n dL_law_27 rfl rfl ?_
    refine sp_iload_n dL_law_28 rfl rfl ?_
    refine sp_sld dL_law_29 (vp_in_nI (by omega) (by omega)) ?_
    refine sp_bipush (v := 63) dL_law_30 (by decide) ?_
    refine sp_iand dL_law_32 ?_
    have next : ∀ p : sp_Mem, Inv (k + 1) p → sp_Wp g sp_WS mL_law (3 * r) (464 * r) 1333 [some (.ref (1000100 + 101)), some (.ref 0), some (.ref 103), some (.int (nI (6 * k)))] [] p Q := by
      intro p hp
      refine sp_iinc (v := nI (6 * (k + 1))) [some (.ref (1000100 + 101)), some (.ref 0), some (.ref 103), some (.int (nI (6 * (k + 1))))] dL_law_1333 rfl ?_ (by decide) rfl ?_
      · show nI (6 * k) + nI 6 = _
        rw [nI_add]
        rfl
      refine sp_goto (tgt := 18) dL_law_1336 (by decide) ?_
      exact ih (k + 1) p (by omega) (by omega) hp
    have step := hP.2.2.2 k M (by omega) hI
    generalize hcc : sp_sx g (nI (6 * k)).toNatClampNeg &&& 63 = cc
    by_cases c0 : cc = 0
    · refine sp_tswI (tgt := 216) dL_law_33 (by rw [c0]; decide) (by rw [c0]; decide) (by rw [c0]; rfl) (by decide) ?_
      obtain ⟨p, hp, hp2⟩ := step.1 (sp_sx g (nI (6 * k) + 1).toNatClampNeg) (sp_sx g (nI (6 * k) + 2).toNatClampNeg) (sp_sx g (nI (6 * k) + 3).toNatClampNeg)
      exact sp_less (by omega) (by omega) (hL_0 hG i1 i2 i3 i4 i5 hp (next p hp2))
    by_cases c1 : cc = 1
    · refine sp_tswI (tgt := 259) dL_law_33 (by rw [c1]; decide) (by rw [c1]; decide) (by rw [c1]; rfl) (by decide) ?_
      obtain ⟨p, hp, hp2⟩ := step.2.1 (sp_sx g (nI (6 * k) + 1).toNatClampNeg) (sp_sx g (nI (6 * k) + 2).toNatClampNeg)
      exact sp_less (by omega) (by omega) (hL_1 hG i1 i2 i3 i4 i5 hp (next p hp2))
    by_cases c2 : cc = 2
    · refine sp_tswI (tgt := 292) dL_law_33 (by rw [c2]; decide) (by rw [c2]; decide) (by rw [c2]; rfl) (by decide) ?_
      obtain ⟨p, hp, hp2⟩ := step.2.2.1 (sp_sx g (nI (6 * k) + 1).toNatClampNeg) (sp_sx g (nI (6 * k) + 2).toNatClampNeg)
      exact sp_less (by omega) (by omega) (hL_2 hG i1 i2 i3 i4 i5 hp (next p hp2))
    by_cases c3 : cc = 3
    · refine sp_tswI (tgt := 325) dL_law_33 (by rw [c3]; decide) (by rw [c3]; decide) (by rw [c3]; rfl) (by decide) ?_
      obtain ⟨p, hp, hp2⟩ := step.2.2.2.1 (sp_sx g (nI (6 * k) + 1).toNatClampNeg) (sp_sx g (nI (6 * k) + 2).toNatClampNeg)
      exact sp_less (by omega) (by omega) (hL_3 hG i1 i2 i3 i4 i5 hp (next p hp2))
    by_cases c4 : cc = 4
    · refine sp_tswI (tgt := 358) dL_law_33 (by rw [c4]; decide) (by rw [c4]; decide) (by rw [c4]; rfl) (by decide) ?_
      obtain ⟨p, hp, hp2⟩ := step.2.2.2.2.1 (sp_sx g (nI (6 * k) + 1).toNatClampNeg) (sp_sx g (nI (6 * k) + 2).toNatClampNeg)
      exact sp_less (by omega) (by omega) (hL_4 hG i1 i2 i3 i4 i5 hp (next p hp2))
    by_cases c5 : cc = 5
    · refine sp_tswI (tgt := 391) dL_law_33 (by rw [c5]; decide) (by rw [c5]; decide) (by rw [c5]; rfl) (by decide) ?_
      obtain ⟨p, hp, hp2⟩ := step.2.2.2.2.2.1 (sp_sx g (nI (6 * k) + 1).toNatClampNeg) (sp_sx g (nI (6 * k) + 2).toNatClampNeg) (sp_sx g (nI (6 * k) + 3).toNatClampNeg)
      exact sp_less (by omega) (by omega) (hL_5 hG i1 i2 i3 i4 i5 hp (next p hp2))
    by_cases c6 : cc = 6
    · refine sp_tswI (tgt := 434) dL_law_33 (by rw [c6]; decide) (by rw [c6]; decide) (by rw [c6]; rfl) (by decide) ?_
      obtain ⟨p, hp, hp2⟩ := step.2.2.2.2.2.2.1 (sp_sx g (nI (6 * k) + 1).toNatClampNeg)
      exact sp_less (by omega) (by omega) (hL_6 hG i1 i2 i3 i4 i5 hp (next p hp2))
    by_cases c7 : cc = 7
    · refine sp_tswI (tgt := 457) dL_law_33 (by rw [c7]; decide) (by rw [c7]; decide) (by rw [c7]; rfl) (by decide) ?_
      obtain ⟨p, hp, hp2⟩ := step.2.2.2.2.2.2.2.1 (sp_sx g (nI (6 * k) + 1).toNatClampNeg) (sp_sx g (nI (6 * k) + 2).toNatClampNeg)
      exact sp_less (by omega) (by omega) (hL_7 hG i1 i2 i3 i4 i5 hp (next p hp2))
    by_cases c8 : cc = 8
    · refine sp_tswI (tgt := 490) dL_law_33 (by rw [c8]; decide) (by rw [c8]; decide) (by rw [c8]; rfl) (by decide) ?_
      obtain ⟨p, hp, hp2⟩ := step.2.2.2.2.2.2.2.2.1 (sp_sx g (nI (6 * k) + 1).toNatClampNeg) (sp_sx g (nI (6 * k) + 2).toNatClampNeg) (sp_sx g (nI (6 * k) + 3).toNatClampNeg) (sp_sx g (nI (6 * k) + 4).toNatClampNeg) (sp_sx g (nI (6 * k) + 5).toNatClampNeg)
      exact sp_less (by omega) (by omega) (hL_8 hG i1 i2 i3 i4 i5 hp (next p hp2))
    by_cases c9 : cc = 9
    · refine sp_tswI (tgt := 553) dL_law_33 (by rw [c9]; decide) (by rw [c9]; decide) (by rw [c9]; rfl) (by decide) ?_
      obtain ⟨p, hp, hp2⟩ := step.2.2.2.2.2.2.2.2.2.1 (sp_sx g (nI (6 * k) + 1).toNatClampNeg)
      exact sp_less (by omega) (by omega) (hL_9 hG i1 i2 i3 i4 i5 hp (next p hp2))
    by_cases c10 : cc = 10
    · refine sp_tswI (tgt := 576) dL_law_33 (by rw [c10]; decide) (by rw [c10]; decide) (by rw [c10]; rfl) (by decide) ?_
      obtain ⟨p, hp, hp2⟩ := step.2.2.2.2.2.2.2.2.2.2.1
      exact sp_less (by omega) (by omega) (hL_10 hG i1 i2 i3 i4 i5 hp (next p hp2))
    by_cases c11 : cc = 11
    · refine sp_tswI (tgt := 589) dL_law_33 (by rw [c11]; decide) (by rw [c11]; decide) (by rw [c11]; rfl) (by decide) ?_
      obtain ⟨p, hp, hp2⟩ := step.2.2.2.2.2.2.2.2.2.2.2.1
      exact sp_less (by omega) (by omega) (hL_11 hG i1 i2 i3 i4 i5 hp (next p hp2))
    by_cases c12 : cc = 12
    · refine sp_tswI (tgt := 602) dL_law_33 (by rw [c12]; decide) (by rw [c12]; decide) (by rw [c12]; rfl) (by decide) ?_
      obtain ⟨p, hp, b1, b2, hp2⟩ := step.2.2.2.2.2.2.2.2.2.2.2.2.1
      exact sp_less (by omega) (by omega) (hL_12 hG (fun x hx => hP.2.2.1 M x hx) hp (next p.1 hp2))
    by_cases c13 : cc = 13
    · refine sp_tswI (tgt := 615) dL_law_33 (by rw [c13]; decide) (by rw [c13]; decide) (by rw [c13]; rfl) (by decide) ?_
      obtain ⟨p, hp, hp2⟩ := step.2.2.2.2.2.2.2.2.2.2.2.2.2.1
      exact sp_less (by omega) (by omega) (hL_13 hG i1 i2 i3 i4 i5 hp (next p hp2))
    by_cases c14 : cc = 14
    · refine sp_tswI (tgt := 628) dL_law_33 (by rw [c14]; decide) (by rw [c14]; decide) (by rw [c14]; rfl) (by decide) ?_
      obtain ⟨p, hp, hp2⟩ := step.2.2.2.2.2.2.2.2.2.2.2.2.2.2.1
      exact sp_less (by omega) (by omega) (hL_14 hG i1 i2 i3 i4 i5 hp (next p hp2))
    by_cases c15 : cc = 15
    · refine sp_tswI (tgt := 641) dL_law_33 (by rw [c15]; decide) (by rw [c15]; decide) (by rw [c15]; rfl) (by decide) ?_
      obtain ⟨p, hp, hp2⟩ := step.2.2.2.2.2.2.2.2.2.2.2.2.2.2.2.1
      exact sp_less (by omega) (by omega) (hL_15 hG i1 i2 i3 i4 i5 hp (next p hp2))
    by_cases c16 : cc = 16
    · refine sp_tswI (tgt := 654) dL_law_33 (by rw [c16]; decide) (by rw [c16]; decide) (by rw [c16]; rfl) (by decide) ?_
      obtain ⟨p, hp, hp2⟩ := step.2.2.2.2.2.2.2.2.2.2.2.2.2.2.2.2.1 (sp_sx g (nI (6 * k) + 1).toNatClampNeg)
      exact sp_less (by omega) (by omega) (hL_16 hG i1 i2 i3 i4 i5 hp (next p hp2))
    by_cases c17 : cc = 17
    · refine sp_tswI (tgt := 677) dL_law_33 (by rw [c17]; decide) (by rw [c17]; decide) (by rw [c17]; rfl) (by decide) ?_
      obtain ⟨p, hp, hp2⟩ := step.2.2.2.2.2.2.2.2.2.2.2.2.2.2.2.2.2.1 (sp_sx g (nI (6 * k) + 1).toNatClampNeg) (sp_sx g (nI (6 * k) + 2).toNatClampNeg)
      exact sp_less (by omega) (by omega) (hL_17 hG i1 i2 i3 i4 i5 hp (next p hp2))
    by_cases c18 : cc = 18
    · refine sp_tswI (tgt := 710) dL_law_33 (by rw [c18]; decide) (by rw [c18]; decide) (by rw [c18]; rfl) (by decide) ?_
      obtain ⟨p, hp, hp2⟩ := step.2.2.2.2.2.2.2.2.2.2.2.2.2.2.2.2.2.2.1 (sp_sx g (nI (6 * k) + 1).toNatClampNeg)
      exact sp_less (by omega) (by omega) (hL_18 hG i1 i2 i3 i4 i5 hp (next p hp2))
    by_cases c19 : cc = 19
    · refine sp_tswI (tgt := 733) dL_law_33 (by rw [c19]; decide) (by rw [c19]; decide) (by rw [c19]; rfl) (by decide) ?_
      obtain ⟨p, hp, hp2⟩ := step.2.2.2.2.2.2.2.2.2.2.2.2.2.2.2.2.2.2.2.1 (sp_sx g (nI (6 * k) + 1).toNatClampNeg) (sp_sx g (nI (6 * k) + 2).toNatClampNeg)
      exact sp_less (by omega) (by omega) (hL_19 hG i1 i2 i3 i4 i5 hp (next p hp2))
    by_cases c20 : cc = 20
    · refine sp_tswI (tgt := 766) dL_law_33 (by rw [c20]; decide) (by rw [c20]; decide) (by rw [c20]; rfl) (by decide) ?_
      obtain ⟨p, hp, hp2⟩ := step.2.2.2.2.2.2.2.2.2.2.2.2.2.2.2.2.2.2.2.2.1
      exact sp_less (by omega) (by omega) (hL_20 hG i1 i2 i3 i4 i5 hp (next p hp2))
    by_cases c21 : cc = 21
    · refine sp_tswI (tgt := 779) dL_law_33 (by rw [c21]; decide) (by rw [c21]; decide) (by rw [c21]; rfl) (by decide) ?_
      obtain ⟨p, hp, hp2⟩ := step.2.2.2.2.2.2.2.2.2.2.2.2.2.2.2.2.2.2.2.2.2.1
      exact sp_less (by omega) (by omega) (hL_21 hG i1 i2 i3 i4 i5 hp (next p hp2))
    by_cases c22 : cc = 22
    · refine sp_tswI (tgt := 792) dL_law_33 (by rw [c22]; decide) (by rw [c22]; decide) (by rw [c22]; rfl) (by decide) ?_
      obtain ⟨p, hp, hp2⟩ := step.2.2.2.2.2.2.2.2.2.2.2.2.2.2.2.2.2.2.2.2.2.2.1 (sp_sx g (nI (6 * k) + 1).toNatClampNeg) (sp_sx g (nI (6 * k) + 2).toNatClampNeg)
      exact sp_less (by omega) (by omega) (hL_22 hG i1 i2 i3 i4 i5 hp (next p hp2))
    by_cases c23 : cc = 23
    · refine sp_tswI (tgt := 825) dL_law_33 (by rw [c23]; decide) (by rw [c23]; decide) (by rw [c23]; rfl) (by decide) ?_
      obtain ⟨p, hp, hp2⟩ := step.2.2.2.2.2.2.2.2.2.2.2.2.2.2.2.2.2.2.2.2.2.2.2.1 (sp_sx g (nI (6 * k) + 1).toNatClampNeg) (sp_sx g (nI (6 * k) + 2).toNatClampNeg)
      exact sp_less (by omega) (by omega) (hL_23 hG i1 i2 i3 i4 i5 hp (next p hp2))
    by_cases c24 : cc = 24
    · refine sp_tswI (tgt := 858) dL_law_33 (by rw [c24]; decide) (by rw [c24]; decide) (by rw [c24]; rfl) (by decide) ?_
      obtain ⟨p, hp, hp2⟩ := step.2.2.2.2.2.2.2.2.2.2.2.2.2.2.2.2.2.2.2.2.2.2.2.2.1 (sp_sx g (nI (6 * k) + 1).toNatClampNeg) (sp_sx g (nI (6 * k) + 2).toNatClampNeg)
      exact sp_less (by omega) (by omega) (hL_24 hG i1 i2 i3 i4 i5 hp (next p hp2))
    by_cases c25 : cc = 25
    · refine sp_tswI (tgt := 891) dL_law_33 (by rw [c25]; decide) (by rw [c25]; decide) (by rw [c25]; rfl) (by decide) ?_
      obtain ⟨p, hp, hp2⟩ := step.2.2.2.2.2.2.2.2.2.2.2.2.2.2.2.2.2.2.2.2.2.2.2.2.2.1 (sp_sx g (nI (6 * k) + 1).toNatClampNeg) (sp_sx g (nI (6 * k) + 2).toNatClampNeg)
      exact sp_less (by omega) (by omega) (hL_25 hG i1 i2 i3 i4 i5 hp (next p hp2))
    by_cases c26 : cc = 26
    · refine sp_tswI (tgt := 924) dL_law_33 (by rw [c26]; decide) (by rw [c26]; decide) (by rw [c26]; rfl) (by decide) ?_
      obtain ⟨p, hp, hp2⟩ := step.2.2.2.2.2.2.2.2.2.2.2.2.2.2.2.2.2.2.2.2.2.2.2.2.2.2.1
      exact sp_less (by omega) (by omega) (hL_26 hG i1 i2 i3 i4 i5 hp (next p hp2))
    by_cases c27 : cc = 27
    · refine sp_tswI (tgt := 937) dL_law_33 (by rw [c27]; decide) (by rw [c27]; decide) (by rw [c27]; rfl) (by decide) ?_
      obtain ⟨p, hp, hp2⟩ := step.2.2.2.2.2.2.2.2.2.2.2.2.2.2.2.2.2.2.2.2.2.2.2.2.2.2.2.1
      exact sp_less (by omega) (by omega) (hL_27 hG i1 i2 i3 i4 i5 hp (next p hp2))
    by_cases c28 : cc = 28
    · refine sp_tswI (tgt := 950) dL_law_33 (by rw [c28]; decide) (by rw [c28]; decide) (by rw [c28]; rfl) (by decide) ?_
      obtain ⟨p, hp, hp2⟩ := step.2.2.2.2.2.2.2.2.2.2.2.2.2.2.2.2.2.2.2.2.2.2.2.2.2.2.2.2.1 (sp_sx g (nI (6 * k) + 1).toNatClampNeg)
      exact sp_less (by omega) (by omega) (hL_28 hG i1 i2 i3 i4 i5 hp (next p hp2))
    by_cases c29 : cc = 29
    · refine sp_tswI (tgt := 973) dL_law_33 (by rw [c29]; decide) (by rw [c29]; decide) (by rw [c29]; rfl) (by decide) ?_
      obtain ⟨p, hp, hp2⟩ := step.2.2.2.2.2.2.2.2.2.2.2.2.2.2.2.2.2.2.2.2.2.2.2.2.2.2.2.2.2.1 (sp_sx g (nI (6 * k) + 1).toNatClampNeg)
      exact sp_less (by omega) (by omega) (hL_29 hG i1 i2 i3 i4 i5 hp (next p hp2))
    by_cases c30 : cc = 30
    · refine sp_tswI (tgt := 996) dL_law_33 (by rw [c30]; decide) (by rw [c30]; decide) (by rw [c30]; rfl) (by decide) ?_
      obtain ⟨p, hp, hp2⟩ := step.2.2.2.2.2.2.2.2.2.2.2.2.2.2.2.2.2.2.2.2.2.2.2.2.2.2.2.2.2.2.1 (sp_sx g (nI (6 * k) + 1).toNatClampNeg)
      exact sp_less (by omega) (by omega) (hL_30 hG i1 i2 i3 i4 i5 hp (next p hp2))
    by_cases c31 : cc = 31
    · refine sp_tswI (tgt := 1019) dL_law_33 (by rw [c31]; decide) (by rw [c31]; decide) (by rw [c31]; rfl) (by decide) ?_
      obtain ⟨p, hp, hp2⟩ := step.2.2.2.2.2.2.2.2.2.2.2.2.2.2.2.2.2.2.2.2.2.2.2.2.2.2.2.2.2.2.2.1 (sp_sx g (nI (6 * k) + 1).toNatClampNeg) (sp_sx g (nI (6 * k) + 2).toNatClampNeg)
      exact sp_less (by omega) (by omega) (hL_31 hG i1 i2 i3 i4 i5 hp (next p hp2))
    by_cases c32 : cc = 32
    · refine sp_tswI (tgt := 1052) dL_law_33 (by rw [c32]; decide) (by rw [c32]; decide) (by rw [c32]; rfl) (by decide) ?_
      obtain ⟨p, hp, hp2⟩ := step.2.2.2.2.2.2.2.2.2.2.2.2.2.2.2.2.2.2.2.2.2.2.2.2.2.2.2.2.2.2.2.2.1 (sp_sx g (nI (6 * k) + 1).toNatClampNeg)
      exact sp_less (by omega) (by omega) (hL_32 hG i1 i2 i3 i4 i5 hp (next p hp2))
    by_cases c33 : cc = 33
    · refine sp_tswI (tgt := 1075) dL_law_33 (by rw [c33]; decide) (by rw [c33]; decide) (by rw [c33]; rfl) (by decide) ?_
      obtain ⟨p, hp, hp2⟩ := step.2.2.2.2.2.2.2.2.2.2.2.2.2.2.2.2.2.2.2.2.2.2.2.2.2.2.2.2.2.2.2.2.2.1 (sp_sx g (nI (6 * k) + 1).toNatClampNeg) (sp_sx g (nI (6 * k) + 2).toNatClampNeg) (sp_sx g (nI (6 * k) + 3).toNatClampNeg)
      exact sp_less (by omega) (by omega) (hL_33 hG i1 i2 i3 i4 i5 hp (next p hp2))
    by_cases c34 : cc = 34
    · refine sp_tswI (tgt := 1119) dL_law_33 (by rw [c34]; decide) (by rw [c34]; decide) (by rw [c34]; rfl) (by decide) ?_
      obtain ⟨p, hp, hp2⟩ := step.2.2.2.2.2.2.2.2.2.2.2.2.2.2.2.2.2.2.2.2.2.2.2.2.2.2.2.2.2.2.2.2.2.2.1 (sp_sx g (nI (6 * k) + 1).toNatClampNeg) (sp_sx g (nI (6 * k) + 2).toNatClampNeg)
      exact sp_less (by omega) (by omega) (hL_34 hG i1 i2 i3 i4 i5 hp (next p hp2))
    by_cases c35 : cc = 35
    · refine sp_tswI (tgt := 1152) dL_law_33 (by rw [c35]; decide) (by rw [c35]; decide) (by rw [c35]; rfl) (by decide) ?_
      obtain ⟨p, hp, hp2⟩ := step.2.2.2.2.2.2.2.2.2.2.2.2.2.2.2.2.2.2.2.2.2.2.2.2.2.2.2.2.2.2.2.2.2.2.2.1 (sp_sx g (nI (6 * k) + 1).toNatClampNeg) (sp_sx g (nI (6 * k) + 2).toNatClampNeg)
      exact sp_less (by omega) (by omega) (hL_35 hG i1 i2 i3 i4 i5 hp (next p hp2))
    by_cases c36 : cc = 36
    · refine sp_tswI (tgt := 1185) dL_law_33 (by rw [c36]; decide) (by rw [c36]; decide) (by rw [c36]; rfl) (by decide) ?_
      obtain ⟨p, hp, hp2⟩ := step.2.2.2.2.2.2.2.2.2.2.2.2.2.2.2.2.2.2.2.2.2.2.2.2.2.2.2.2.2.2.2.2.2.2.2.2.1 (sp_sx g (nI (6 * k) + 1).toNatClampNeg) (sp_sx g (nI (6 * k) + 2).toNatClampNeg)
      exact sp_less (by omega) (by omega) (hL_36 hG i1 i2 i3 i4 i5 hp (next p hp2))
    by_cases c37 : cc = 37
    · refine sp_tswI (tgt := 1218) dL_law_33 (by rw [c37]; decide) (by rw [c37]; decide) (by rw [c37]; rfl) (by decide) ?_
      obtain ⟨p, hp, hp2⟩ := step.2.2.2.2.2.2.2.2.2.2.2.2.2.2.2.2.2.2.2.2.2.2.2.2.2.2.2.2.2.2.2.2.2.2.2.2.2.1 (sp_sx g (nI (6 * k) + 1).toNatClampNeg) (sp_sx g (nI (6 * k) + 2).toNatClampNeg)
      exact sp_less (by omega) (by omega) (hL_37 hG i1 i2 i3 i4 i5 hp (next p hp2))
    by_cases c38 : cc = 38
    · refine sp_tswI (tgt := 1251) dL_law_33 (by rw [c38]; decide) (by rw [c38]; decide) (by rw [c38]; rfl) (by decide) ?_
      obtain ⟨p, hp, hp2⟩ := step.2.2.2.2.2.2.2.2.2.2.2.2.2.2.2.2.2.2.2.2.2.2.2.2.2.2.2.2.2.2.2.2.2.2.2.2.2.2.1 (sp_sx g (nI (6 * k) + 1).toNatClampNeg)
      exact sp_less (by omega) (by omega) (hL_38 hG i1 i2 i3 i4 i5 hp (next p hp2))
    by_cases c39 : cc = 39
    · refine sp_tswI (tgt := 1274) dL_law_33 (by rw [c39]; decide) (by rw [c39]; decide) (by rw [c39]; rfl) (by decide) ?_
      obtain ⟨p, hp, hp2⟩ := step.2.2.2.2.2.2.2.2.2.2.2.2.2.2.2.2.2.2.2.2.2.2.2.2.2.2.2.2.2.2.2.2.2.2.2.2.2.2.2.1 (sp_sx g (nI (6 * k) + 1).toNatClampNeg)
      exact sp_less (by omega) (by omega) (hL_39 hG i1 i2 i3 i4 i5 hp (next p hp2))
    by_cases c40 : cc = 40
    · refine sp_tswI (tgt := 1297) dL_law_33 (by rw [c40]; decide) (by rw [c40]; decide) (by rw [c40]; rfl) (by decide) ?_
      obtain ⟨p, hp, hp2⟩ := step.2.2.2.2.2.2.2.2.2.2.2.2.2.2.2.2.2.2.2.2.2.2.2.2.2.2.2.2.2.2.2.2.2.2.2.2.2.2.2.2.1 (sp_sx g (nI (6 * k) + 1).toNatClampNeg)
      exact sp_less (by omega) (by omega) (hL_40 hG i1 i2 i3 i4 i5 hp (next p hp2))
    by_cases c41 : cc = 41
    · refine sp_tswI (tgt := 1320) dL_law_33 (by rw [c41]; decide) (by rw [c41]; decide) (by rw [c41]; rfl) (by decide) ?_
      obtain ⟨p, hp, hp2⟩ := step.2.2.2.2.2.2.2.2.2.2.2.2.2.2.2.2.2.2.2.2.2.2.2.2.2.2.2.2.2.2.2.2.2.2.2.2.2.2.2.2.2
      exact sp_less (by omega) (by omega) (hL_41 hG i1 i2 i3 i4 i5 hp (next p hp2))
    have c0 := sp_ne c0 (show (0 : Int32).toInt = 0 by decide)
    have c1 := sp_ne c1 (show (1 : Int32).toInt = 1 by decide)
    have c2 := sp_ne c2 (show (2 : Int32).toInt = 2 by decide)
    have c3 := sp_ne c3 (show (3 : Int32).toInt = 3 by decide)
    have c4 := sp_ne c4 (show (4 : Int32).toInt = 4 by decide)
    have c5 := sp_ne c5 (show (5 : Int32).toInt = 5 by decide)
    have c6 := sp_ne c6 (show (6 : Int32).toInt = 6 by decide)
    have c7 := sp_ne c7 (show (7 : Int32).toInt = 7 by decide)
    have c8 := sp_ne c8 (show (8 : Int32).toInt = 8 by decide)
    have c9 := sp_ne c9 (show (9 : Int32).toInt = 9 by decide)
    have c10 := sp_ne c10 (show (10 : Int32).toInt = 10 by decide)
    have c11 := sp_ne c11 (show (11 : Int32).toInt = 11 by decide)
    have c12 := sp_ne c12 (show (12 : Int32).toInt = 12 by decide)
    have c13 := sp_ne c13 (show (13 : Int32).toInt = 13 by decide)
    have c14 := sp_ne c14 (show (14 : Int32).toInt = 14 by decide)
    have c15 := sp_ne c15 (show (15 : Int32).toInt = 15 by decide)
    have c16 := sp_ne c16 (show (16 : Int32).toInt = 16 by decide)
    have c17 := sp_ne c17 (show (17 : Int32).toInt = 17 by decide)
    have c18 := sp_ne c18 (show (18 : Int32).toInt = 18 by decide)
    have c19 := sp_ne c19 (show (19 : Int32).toInt = 19 by decide)
    have c20 := sp_ne c20 (show (20 : Int32).toInt = 20 by decide)
    have c21 := sp_ne c21 (show (21 : Int32).toInt = 21 by decide)
    have c22 := sp_ne c22 (show (22 : Int32).toInt = 22 by decide)
    have c23 := sp_ne c23 (show (23 : Int32).toInt = 23 by decide)
    have c24 := sp_ne c24 (show (24 : Int32).toInt = 24 by decide)
    have c25 := sp_ne c25 (show (25 : Int32).toInt = 25 by decide)
    have c26 := sp_ne c26 (show (26 : Int32).toInt = 26 by decide)
    have c27 := sp_ne c27 (show (27 : Int32).toInt = 27 by decide)
    have c28 := sp_ne c28 (show (28 : Int32).toInt = 28 by decide)
    have c29 := sp_ne c29 (show (29 : Int32).toInt = 29 by decide)
    have c30 := sp_ne c30 (show (30 : Int32).toInt = 30 by decide)
    have c31 := sp_ne c31 (show (31 : Int32).toInt = 31 by decide)
    have c32 := sp_ne c32 (show (32 : Int32).toInt = 32 by decide)
    have c33 := sp_ne c33 (show (33 : Int32).toInt = 33 by decide)
    have c34 := sp_ne c34 (show (34 : Int32).toInt = 34 by decide)
    have c35 := sp_ne c35 (show (35 : Int32).toInt = 35 by decide)
    have c36 := sp_ne c36 (show (36 : Int32).toInt = 36 by decide)
    have c37 := sp_ne c37 (show (37 : Int32).toInt = 37 by decide)
    have c38 := sp_ne c38 (show (38 : Int32).toInt = 38 by decide)
    have c39 := sp_ne c39 (show (39 : Int32).toInt = 39 by decide)
    have c40 := sp_ne c40 (show (40 : Int32).toInt = 40 by decide)
    have c41 := sp_ne c41 (show (41 : Int32).toInt = 41 by decide)
    refine sp_tswO (tgt := 1333) dL_law_33 (by omega) (by decide) ?_
    exact sp_less (by omega) (by omega) (next M (hP.2.1 k M hI))
