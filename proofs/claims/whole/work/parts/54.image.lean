/-! ===== image, back ===== -/
theorem i_B_ext {r r' : Nat → Int32} (h : i_B r) (he : ∀ i, i < 79 → r' i = r i) : i_B r' := by
  obtain ⟨⟨a1, a2, a3, a4, a5⟩, b⟩ := h
  refine ⟨⟨?_, ?_, ?_, ?_, ?_⟩, fun i h1 h2 => ?_⟩
  · rw [he 0 (by omega)]; exact a1
  · rw [he 1 (by omega)]; exact a2
  · rw [he 2 (by omega)]; exact a3
  · rw [he 3 (by omega), he 4 (by omega)]; exact a4
  · intro k hk
    rw [he 2 (by omega)] at hk
    obtain ⟨n, hn, e⟩ := a3
    have hk6 : k < 6 := by rw [e, nI_toInt (by omega)] at hk; omega
    rw [he 1 (by omega), he (67 + 2 * k) (by omega)]
    exact a5 k hk
  · rw [he i h2]; exact b i h1 h2
def imA (q : Nat) : List Nat := [(52 + 12 * q + 1), (52 + 12 * q + 2), (52 + 12 * q + 3), (52 + 12 * q + 4), (52 + 12 * q + 5), (52 + 12 * q + 6), (52 + 12 * q + 7), (52 + 12 * q + 8), (52 + 12 * q + 9), (52 + 12 * q + 10), (52 + 12 * q + 11), 76, 106, 107]
def imB (q : Nat) : List (Nat × Nat) := [(52 + 12 * q, 4), (52 + 12 * q, 8), (52 + 12 * q, 11), (52 + 12 * q, 14), (52 + 12 * q, 15), (0, 12), (103, 0), (103, 1)]
theorem im_P {M : sp_Mem} (hw : sp_WS M) {q : Nat} (hq : q < 2) : sp_P M 51 q = some (52 + 12 * q) := by
  have : q = 0 ∨ q = 1 := by omega
  rcases this with rfl | rfl
  · exact ws_P hw 51 0 52 (by decide)
  · exact ws_P hw 51 1 64 (by decide)
theorem im_room {q : Nat} (hq : q < 2) : sp_room (52 + 12 * q) := by
  have : q = 0 ∨ q = 1 := by omega
  unfold sp_room
  rcases this with rfl | rfl <;> simp
theorem vn1 : vp_nar .boolean 1 = 1 := by decide
/-- image -/
theorem op_38 {F k : Nat} {M : sp_Mem} (hF : 10000 ≤ F) (hI : Inv k M) (w1 : Int32) : ∃ p, gL_38 F M w1 = some p ∧ Inv (k + 1) p := by
  obtain ⟨hR, hB, hL⟩ := hI.2.1
  have hw := hI.1
  by_cases h : 0 ≤ w1.toInt ∧ w1.toInt ≤ 1
  · obtain ⟨q, hq, rfl⟩ := n_of (n := 2) h.1 (by omega)
    have hq2 : q = 0 ∨ q = 1 := by omega
    obtain ⟨A, a1, a2, a4, a5, a6⟩ := copy_e (F := F) (M := M) (o0 := 52 + 12 * q) (o1 := 6) (by omega) (by omega)
    have hwA := copy_WS (im_room hq) (by unfold sp_room; simp) a6 a4 a5 hw
    let M1 := sp_setI (sp_setI A 76 q 1) 0 12 0
    have e1 : fX10_image F M (nI q) = some (0, M1) := by
      unfold fX10_image
      rw [if_neg (by rw [w_in]; exact fun c => c h), sp_ix_nI hq (by omega), Option.bind_some, im_P hw hq, Option.bind_some, a1, Option.bind_some, Option.bind_some, vn1]
      rfl
    let B0 := sp_cpy (sp_setI M1 103 0 0) 105 106 0 (5480 * q) 5480
    let M2 := sp_setI (sp_setI B0 107 q 1) 103 1 0
    have e2 : fX11_image F M1 (nI q) = some (0, M2) := by
      unfold fX11_image
      simp only [sp_do]
      rw [if_neg (by rw [m_in, n_l]; exact fun c => c h)]
      have hl := im_l (F := F) (M := sp_setI M1 103 0 0) (kx := fun b8 M7 => (sp_ix 2 b8).bind fun j9 => (fX11_tell (sp_setI M7 107 j9 (vp_nar .boolean 1)) 0).bind fun x11 => some (x11.1, x11.2)) hq 5480 0 F (by omega) (by omega)
      rw [cpy_0] at hl
      have hl : fX11_image_l23 F _ F (nI q) 0 (sp_setI M1 103 0 0) = _ := hl
      rw [hl, sp_ix_nI hq (by omega), Option.bind_some, vn1, tell_g _ (by decide)]
      rfl
    have hcpy : sp_fr (imA q) (imB q) (sp_setI M1 103 0 0) B0 := sp_fr_C (by unfold imA; simp) rfl
    have hfr : sp_fr (imA q) (imB q) M M2 := (((((a6.mono (fun i hi => by unfold imA; simp at hi ⊢; omega) (fun i hi => by unfold imB; simp at hi ⊢; rcases hi with rfl | rfl | rfl | rfl | rfl <;> simp)).tr (sp_fr_I (Or.inl (by unfold imA; simp)) rfl)).tr (sp_fr_I (Or.inr (by unfold imB; simp)) rfl)).tr (sp_fr_I (Or.inr (by unfold imB; simp)) rfl)).tr hcpy).tr ((sp_fr_I (Or.inl (by unfold imA; simp)) rfl).tr (sp_fr_I (Or.inr (by unfold imB; simp)) rfl))
    have hok : okA (imA q) (imB q) = true := by rcases hq2 with rfl | rfl <;> decide +kernel
    refine ⟨M2, glue (b := fun m => fX11_image F m (nI q)) e1 e2, ?_⟩
    -- what the memory holds then
    have hI2 : ∀ i j, i ≠ 107 → i ≠ 103 → i ≠ 106 → i ≠ 0 → i ≠ 76 → sp_I M2 i j = sp_I A i j := by
      intro i j h1 h2 h3 h4 h5
      show sp_I (sp_setI (sp_setI (sp_cpy (sp_setI (sp_setI (sp_setI A 76 q 1) 0 12 0) 103 0 0) 105 106 0 (5480 * q) 5480) 107 q 1) 103 1 0) i j = _
      rw [I_ne _ _ _ h2, I_ne _ _ _ h1, I_cpy_ne h3, I_ne _ _ _ h2, I_ne _ _ _ h4, I_ne _ _ _ h5]
    have h105 : ∀ j, sp_I A 105 j = rM M j := fun j => a6.1 105 j (by simp; omega) (by simp; omega)
    have h106 : ∀ j, sp_I M2 106 j = if 5480 * q ≤ j ∧ j < 5480 * q + 5480 then rM M (j - 5480 * q) else sp_I M 106 j := by
      intro j
      show sp_I (sp_setI (sp_setI (sp_cpy (sp_setI (sp_setI (sp_setI A 76 q 1) 0 12 0) 103 0 0) 105 106 0 (5480 * q) 5480) 107 q 1) 103 1 0) 106 j = _
      rw [I_ne _ _ _ (by decide), I_ne _ _ _ (by decide), I_cpy, I_ne _ _ _ (by decide), I_ne _ _ _ (by decide), I_ne _ _ _ (by decide), I_ne _ _ _ (by decide), I_ne _ _ _ (by decide), I_ne _ _ _ (by decide)]
      by_cases hj : 5480 * q ≤ j ∧ j < 5480 * q + 5480
      · rw [if_pos hj, if_pos hj, Nat.zero_add, h105]
      · rw [if_neg hj, if_neg hj]
        exact a6.1 106 j (by simp; omega) (by simp; omega)
    have h76 : ∀ j, sp_I M2 76 j = if j = q then 1 else sp_I M 76 j := by
      intro j
      show sp_I (sp_setI (sp_setI (sp_cpy (sp_setI (sp_setI (sp_setI A 76 q 1) 0 12 0) 103 0 0) 105 106 0 (5480 * q) 5480) 107 q 1) 103 1 0) 76 j = _
      rw [I_ne _ _ _ (by decide), I_ne _ _ _ (by decide), I_cpy_ne (by decide), I_ne _ _ _ (by decide), I_ne _ _ _ (by decide)]
      by_cases hj : j = q
      · rw [if_pos hj, hj, I_eq]
      · rw [if_neg hj, I_nf _ _ _ hj]
        exact a6.1 76 j (by simp; omega) (by simp; omega)
    have h107 : ∀ j, sp_I M2 107 j = if j = q then 1 else sp_I M 107 j := by
      intro j
      show sp_I (sp_setI (sp_setI (sp_cpy (sp_setI (sp_setI (sp_setI A 76 q 1) 0 12 0) 103 0 0) 105 106 0 (5480 * q) 5480) 107 q 1) 103 1 0) 107 j = _
      rw [I_ne _ _ _ (by decide)]
      by_cases hj : j = q
      · rw [if_pos hj, hj, I_eq]
      · rw [if_neg hj, I_nf _ _ _ hj, I_cpy_ne (by decide), I_ne _ _ _ (by decide), I_ne _ _ _ (by decide), I_ne _ _ _ (by decide)]
        exact a6.1 107 j (by simp; omega) (by simp; omega)
    have hP2 : ∀ i j, sp_P M2 i j = sp_P A i j := fun i j => rfl
    refine Inv_step hfr hI hok (Or.inr ?_) (Or.inl (by rcases hq2 with rfl | rfl <;> decide +kernel)) (Or.inl (by rcases hq2 with rfl | rfl <;> decide +kernel)) (Or.inl (by rcases hq2 with rfl | rfl <;> decide +kernel)) (Or.inr ?_) (Or.inr ?_) (Or.inl (by rcases hq2 with rfl | rfl <;> decide +kernel)) (by rcases hq2 with rfl | rfl <;> decide +kernel)
    · have hf2 : sp_fr [76, 106, 107] [(0, 12), (103, 0), (103, 1)] A M2 := ((((sp_fr_I (Or.inl (by decide)) rfl).tr (sp_fr_I (Or.inr (by decide)) rfl)).tr (sp_fr_I (Or.inr (by decide)) rfl)).tr (sp_fr_C (by decide) rfl)).tr ((sp_fr_I (Or.inl (by decide)) rfl).tr (sp_fr_I (Or.inr (by decide)) rfl))
      exact WS_fr0 hf2 (by decide +kernel) (by decide +kernel) hwA
    · have hd : dj [102, 104] [(0, 13), (0, 14), (0, 15), (103, 11), (103, 18), (103, 50), (103, 20)] (imA q) (imB q) = true := by rcases hq2 with rfl | rfl <;> decide +kernel
      refine i_M_grant hI.2.2.2.2.1 (fr_A hfr hd 102 (by decide)) (fr_A hfr hd 104 (by decide)) ?_ ?_ ?_ ?_
      · show sp_I (sp_setI (sp_setI (sp_cpy (sp_setI (sp_setI (sp_setI A 76 q 1) 0 12 0) 103 0 0) 105 106 0 (5480 * q) 5480) 107 q 1) 103 1 0) 0 12 = _
        rw [I_ne _ _ _ (by decide), I_ne _ _ _ (by decide), I_cpy_ne (by decide), I_ne _ _ _ (by decide), I_eq]
      · exact I_eq _ _ _ _
      · intro j hj; rcases hj with rfl | rfl | rfl
        · exact fr_B hfr hd 0 13 (by decide)
        · exact fr_B hfr hd 0 14 (by decide)
        · exact fr_B hfr hd 0 15 (by decide)
      · intro j hj; rcases hj with rfl | rfl | rfl | rfl
        · exact fr_B hfr hd 103 11 (by decide)
        · exact fr_B hfr hd 103 18 (by decide)
        · exact fr_B hfr hd 103 50 (by decide)
        · exact fr_B hfr hd 103 20 (by decide)
    · intro k' hk'
      by_cases hkq : k' = q
      · subst hkq
        have hr' : ∀ i, i < 5480 → (fun i => sp_I M2 106 (5480 * k' + i)) i = rM M i := by
          intro i hi
          show sp_I M2 106 (5480 * k' + i) = _
          rw [h106, if_pos (by omega)]
          congr 1
          omega
        refine ⟨by rw [h76, h107, if_pos rfl, if_pos rfl], Or.inr ⟨by rw [h76, if_pos rfl], fun i hi => ?_, i_B_ext hB (fun i hi => hr' i (by omega)), ?_⟩⟩
        · rw [hr' i (by omega), ro_at]
          have := fa_le i hi
          rw [hI2 _ _ (by omega) (by omega) (by omega) (by omega) (by omega), ← ro_at]
          exact (a2 i hi).trans (hR i hi)
        · exact i_Law_fr hfr hok (fun j hj => by
            have : (rM M 3).toInt ≤ 6 := r3_le hB
            rw [hP2]; exact a4 j (by omega)) (hr' 3 (by omega)) (fun i g1 g2 => hr' i g2) (r3_le hB) hL
      · obtain ⟨g1, g2⟩ := hI.2.2.2.2.2.1 k' hk'
        have hr' : ∀ i, i < 5480 → sp_I M2 106 (5480 * k' + i) = sp_I M 106 (5480 * k' + i) := by
          intro i hi
          rw [h106, if_neg (by omega)]
        refine ⟨by rw [h76, h107, if_neg hkq, if_neg hkq]; exact g1, g2.imp (fun g => by rw [h76, if_neg hkq]; exact g) (fun g => ⟨by rw [h76, if_neg hkq]; exact g.1, fun i hi => ?_, i_B_ext g.2.2.1 (fun i hi => hr' i (by omega)), ?_⟩)⟩
        · show rowOf M2 (52 + 12 * k') i = sp_I M2 106 (5480 * k' + i)
          rw [hr' i (by omega), show sp_I M 106 (5480 * k' + i) = rowOf M (52 + 12 * k') i from (g.2.1 i hi).symm, ro_at, ro_at]
          have := fa_le i hi
          rw [hI2 _ _ (by omega) (by omega) (by omega) (by omega) (by omega)]
          exact a6.1 _ _ (by simp; omega) (by simp; omega)
        · refine i_Law_fr hfr hok (fun j hj => ?_) (hr' 3 (by omega)) (fun i h1 h2 => hr' i h2) (r3_le g.2.2.1) g.2.2.2
          rw [hP2]
          exact a6.2.2.1 _ _ (by simp; omega) (by simp; omega)
  · have e1 : fX10_image F M w1 = some (-1, rfM M 1) := by
      unfold fX10_image
      rw [if_pos (by rw [w_in]; exact h), rf_1]
      rfl
    have e2 : fX11_image F (rfM M 1) w1 = some (-1, tlM (sp_setI (rfM M 1) 103 0 0) 1) := by
      unfold fX11_image
      simp only [sp_do]
      rw [if_pos (by rw [m_in, n_l]; exact h), tl_1]
      rfl
    exact ⟨_, glue (b := fun m => fX11_image F m w1) e1 e2, Inv_ref hI⟩
/-- back -/
theorem op_39 {F k : Nat} {M : sp_Mem} (hF : 10000 ≤ F) (hI : Inv k M) (w1 : Int32) : ∃ p, gL_39 F M w1 = some p ∧ Inv (k + 1) p := by
  obtain ⟨hR, hB, hL⟩ := hI.2.1
  have hw := hI.1
  by_cases h : 0 ≤ w1.toInt ∧ w1.toInt ≤ 1
  · obtain ⟨q, hq, rfl⟩ := n_of (n := 2) h.1 (by omega)
    have hq2 : q = 0 ∨ q = 1 := by omega
    obtain ⟨g1, g2⟩ := hI.2.2.2.2.2.1 q hq
    by_cases hk0 : sp_I M 76 q = 0
    · have e1 : fX10_back F M (nI q) = some (-2, rfM M 2) := by
        unfold fX10_back
        rw [if_neg (by rw [w_in]; exact fun c => c h), sp_ix_nI hq (by omega), Option.bind_some, if_pos hk0, rf_2]
        rfl
      have e2 : fX11_back F (rfM M 2) (nI q) = some (-2, tlM (sp_setI (rfM M 2) 103 0 0) 2) := by
        have : sp_I (sp_setI (rfM M 2) 103 0 0) 107 q = 0 := by
          rw [I_ne _ _ _ (by decide), rf_I _ _ (by decide) (by decide), ← g1]; exact hk0
        unfold fX11_back
        simp only [sp_do]
        rw [if_neg (by rw [m_in, n_l]; exact fun c => c h), sp_ix_nI hq (by omega), Option.bind_some, if_pos this, tl_2]
        rfl
      exact ⟨_, glue (b := fun m => fX11_back F m (nI q)) e1 e2, Inv_ref hI⟩
    · obtain ⟨i1, i2, i3, i4⟩ := g2.resolve_left hk0
      obtain ⟨A, a1, a2, a4, a5, a6⟩ := copy_e (F := F) (M := M) (o0 := 6) (o1 := 52 + 12 * q) (by omega) (by omega)
      have hwA := copy_WS (by unfold sp_room; simp) (im_room hq) a6 a4 a5 hw
      let M1 := sp_setI (sp_setI A 18 3 0) 0 12 0
      have e1 : fX10_back F M (nI q) = some (0, M1) := by
        unfold fX10_back
        rw [if_neg (by rw [w_in]; exact fun c => c h), sp_ix_nI hq (by omega), Option.bind_some, if_neg hk0, Option.bind_some, im_P hw hq, Option.bind_some, a1, Option.bind_some]
        rfl
      let B0 := sp_cpy (sp_setI M1 103 0 0) 106 105 (5480 * q) 0 5480
      let M2 := sp_setI (sp_setI B0 103 8 0) 103 1 0
      have e2 : fX11_back F M1 (nI q) = some (0, M2) := by
        have h107 : ¬ sp_I (sp_setI M1 103 0 0) 107 q = 0 := by
          rw [I_ne _ _ _ (by decide)]
          show ¬ sp_I (sp_setI (sp_setI A 18 3 0) 0 12 0) 107 q = 0
          rw [I_ne _ _ _ (by decide), I_ne _ _ _ (by decide), a6.1 107 q (by decide) (by simp), ← g1]; exact hk0
        unfold fX11_back
        simp only [sp_do]
        rw [if_neg (by rw [m_in, n_l]; exact fun c => c h), sp_ix_nI hq (by omega), Option.bind_some, if_neg h107]
        have hl := bk_l (F := F) (M := sp_setI M1 103 0 0) (kx := fun M9 => (fX11_settled M9 0).bind fun x10 => some (x10.1, x10.2)) hq 5480 0 F (by omega) (by omega)
        rw [cpy_0] at hl
        have hl : fX11_back_l39 F _ F (nI q) 0 (sp_setI M1 103 0 0) = _ := hl
        rw [hl, settled_g _ (by decide)]
        rfl
      have f1 := frX10_back e1
      have f2 := frX11_back e2
      have hfr := f1.tr2 f2
      refine ⟨M2, glue (b := fun m => fX11_back F m (nI q)) e1 e2, ?_⟩
      have er : ∀ j, j < 5480 → rM M2 j = sp_I M 106 (5480 * q + j) := by
        intro j hj
        show sp_I (sp_setI (sp_setI (sp_cpy (sp_setI (sp_setI (sp_setI A 18 3 0) 0 12 0) 103 0 0) 106 105 (5480 * q) 0 5480) 103 8 0) 103 1 0) 105 j = _
        rw [I_ne _ _ _ (by decide), I_ne _ _ _ (by decide), I_cpy, if_pos (by omega), I_ne _ _ _ (by decide), I_ne _ _ _ (by decide), I_ne _ _ _ (by decide), Nat.sub_zero]
        exact a6.1 106 _ (by decide) (by simp)
      have hM2 : ∀ i j, i ≠ 105 → i ≠ 103 → i ≠ 0 → i ≠ 18 → sp_I M2 i j = sp_I A i j := by
        intro i j h1 h2 h3 h4
        show sp_I (sp_setI (sp_setI (sp_cpy (sp_setI (sp_setI (sp_setI A 18 3 0) 0 12 0) 103 0 0) 106 105 (5480 * q) 0 5480) 103 8 0) 103 1 0) i j = _
        rw [I_ne _ _ _ h2, I_ne _ _ _ h2, I_cpy_ne h1, I_ne _ _ _ h2, I_ne _ _ _ h3, I_ne _ _ _ h4]
      refine Inv_step hfr hI (by decide +kernel) (Or.inr ?_) (Or.inr ⟨fun i hi => ?_, i_B_ext i3 (fun i hi => er i (by omega)), ?_⟩) (Or.inr ?_) (Or.inl (by decide +kernel)) (Or.inr ?_) (Or.inl (by decide +kernel)) (Or.inl (by decide +kernel)) (by decide +kernel)
      · have hf2 : sp_fr [105] [(18, 3), (0, 12), (103, 0), (103, 8), (103, 1)] A M2 := ((((sp_fr_I (Or.inr (by decide)) rfl).tr (sp_fr_I (Or.inr (by decide)) rfl)).tr (sp_fr_I (Or.inr (by decide)) rfl)).tr (sp_fr_C (by decide) rfl)).tr ((sp_fr_I (Or.inr (by decide)) rfl).tr (sp_fr_I (Or.inr (by decide)) rfl))
        exact WS_fr0 hf2 (by decide +kernel) (by decide +kernel) hwA
      · rw [er i (by omega), ro_at]
        have := fa_le i hi
        rw [hM2 _ _ (by omega) (by omega) (by omega) (by omega), ← ro_at]
        exact (a2 i hi).trans (i2 i hi)
      · refine i_Law_fr (o := 52 + 12 * q) hfr (by decide +kernel) (fun j hj => ?_) (er 3 (by omega)) (fun i h1 h2 => er i h2) (r3_le i3) i4
        have : ((fun i => sp_I M 106 (5480 * q + i)) 3).toInt ≤ 6 := r3_le i3
        show sp_P A 17 j = _
        exact a4 j (by dsimp only at this hj; omega)
      · refine U_clear hI ?_ ?_ ?_
        · show sp_I (sp_setI (sp_setI (sp_cpy (sp_setI (sp_setI (sp_setI A 18 3 0) 0 12 0) 103 0 0) 106 105 (5480 * q) 0 5480) 103 8 0) 103 1 0) 18 3 = _
          rw [I_ne _ _ _ (by decide), I_ne _ _ _ (by decide), I_cpy_ne (by decide), I_ne _ _ _ (by decide), I_ne _ _ _ (by decide), I_eq]
        · show sp_I (sp_setI (sp_setI _ 103 8 0) 103 1 0) 103 8 = _
          rw [I_nf _ _ _ (by decide), I_eq]
        · exact hfr.1 18 2 (by decide) (by decide)
      · have hd : dj [] [(0, 13), (0, 14), (0, 15), (103, 11), (103, 18), (103, 50), (103, 20)] ([7, 8, 9, 10, 11, 12, 13, 14, 15, 16, 17, 102] ++ [105, 104]) ([(6, 4), (6, 8), (6, 11), (6, 14), (6, 15), (18, 3), (0, 12)] ++ [(103, 0), (103, 8), (103, 1)]) = true := by decide +kernel
        refine i_M_grant hI.2.2.2.2.1 ?_ ?_ ?_ (I_eq _ _ _ _) ?_ ?_
        · funext j; rw [hM2 102 j (by decide) (by decide) (by decide) (by decide)]; exact a6.1 102 j (by decide) (by simp)
        · funext j; rw [hM2 104 j (by decide) (by decide) (by decide) (by decide)]; exact a6.1 104 j (by decide) (by simp)
        · show sp_I (sp_setI (sp_setI (sp_cpy (sp_setI (sp_setI (sp_setI A 18 3 0) 0 12 0) 103 0 0) 106 105 (5480 * q) 0 5480) 103 8 0) 103 1 0) 0 12 = _
          rw [I_ne _ _ _ (by decide), I_ne _ _ _ (by decide), I_cpy_ne (by decide), I_ne _ _ _ (by decide), I_eq]
        · intro j hj; rcases hj with rfl | rfl | rfl
          · exact fr_B hfr hd 0 13 (by decide)
          · exact fr_B hfr hd 0 14 (by decide)
          · exact fr_B hfr hd 0 15 (by decide)
        · intro j hj; rcases hj with rfl | rfl | rfl | rfl
          · exact fr_B hfr hd 103 11 (by decide)
          · exact fr_B hfr hd 103 18 (by decide)
          · exact fr_B hfr hd 103 50 (by decide)
          · exact fr_B hfr hd 103 20 (by decide)
  · have e1 : fX10_back F M w1 = some (-1, rfM M 1) := by
      unfold fX10_back
      rw [if_pos (by rw [w_in]; exact h), rf_1]
      rfl
    have e2 : fX11_back F (rfM M 1) w1 = some (-1, tlM (sp_setI (rfM M 1) 103 0 0) 1) := by
      unfold fX11_back
      simp only [sp_do]
      rw [if_pos (by rw [m_in, n_l]; exact h), tl_1]
      rfl
    exact ⟨_, glue (b := fun m => fX11_back F m w1) e1 e2, Inv_ref hI⟩
