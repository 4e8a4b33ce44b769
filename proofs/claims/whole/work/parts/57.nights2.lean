/-- nights -/
theorem op_36 {F k : Nat} {M : sp_Mem} (hF : 1000 ≤ F) (hI : Inv k M) (w1 w2 : Int32) : ∃ p, gL_36 F M w1 w2 = some p ∧ Inv (k + 1) p := by
  obtain ⟨lf, n, hC, hX⟩ := Inv_X hF hI
  have h6 := hC.2.2.2.2.2.2.2
  have hR := hC.2.2.2.1
  have hn := hC.2.2.2.2.2.2.1
  have hB := hC.2.2.2.2.1.2
  have hw := hI.1
  obtain ⟨p, hp5, hp⟩ := bt_p hB
  have e4 : sp_I M 6 4 = nI n := (rm_s hR).trans hn
  have e8 : sp_I M 6 8 = nI p := (rm_p hR).trans hp
  have hz1 : fX10_isWithin w1 0 1000000 = 0 ↔ ¬ (0 ≤ w1.toInt ∧ w1.toInt ≤ 1000000) := by rw [w_in]; exact Iff.rfl
  have hz2 : fX10_isWithin w2 1 60 = 0 ↔ ¬ (1 ≤ w2.toInt ∧ w2.toInt ≤ 60) := by rw [w_in]; exact Iff.rfl
  have hy1 : fX11_in (Int32.toInt64 w1) 0 1000000 = 0 ↔ ¬ (0 ≤ w1.toInt ∧ w1.toInt ≤ 1000000) := by rw [m_in, n_l]; exact Iff.rfl
  have hy2 : fX11_in (Int32.toInt64 w2) 1 60 = 0 ↔ ¬ (1 ≤ w2.toInt ∧ w2.toInt ≤ 60) := by rw [m_in, n_l]; exact Iff.rfl
  by_cases h1 : 0 ≤ w1.toInt ∧ w1.toInt ≤ 1000000
  · have a1 : ¬ fX10_isWithin w1 0 1000000 = 0 := fun q => hz1.mp q h1
    have b1 : ¬ fX11_in (Int32.toInt64 w1) 0 1000000 = 0 := fun q => hy1.mp q h1
    by_cases h2 : 1 ≤ w2.toInt ∧ w2.toInt ≤ 60
    · have a2 : ¬ fX10_isWithin w2 1 60 = 0 := fun q => hz2.mp q h2
      have b2 : ¬ fX11_in (Int32.toInt64 w2) 1 60 = 0 := fun q => hy2.mp q h2
      by_cases h0 : n = 0 ∨ p = 0
      · have e1 : fX10_nights F M w1 w2 = some (-3, rfM M 3) := by
          unfold fX10_nights
          rw [if_neg a1, if_neg a2, e4, e8]
          by_cases hn0 : n = 0
          · rw [if_pos (by rw [hn0]; rfl), rf_3]; rfl
          · rw [if_neg (nI_ne0 (by omega) (by omega)), if_pos (by rw [h0.resolve_left hn0]; rfl), rf_3]; rfl
        have u0 : sp_I (sp_setI (rfM M 3) 103 0 0) 105 0 = nI n := by
          rw [I_ne _ _ _ (by decide), rf_I _ _ (by decide) (by decide)]; exact hn
        have u1 : sp_I (sp_setI (rfM M 3) 103 0 0) 105 1 = nI p := by
          rw [I_ne _ _ _ (by decide), rf_I _ _ (by decide) (by decide)]; exact hp
        have e2 : fX11_nights F (rfM M 3) w1 w2 = some (-3, tlM (sp_setI (rfM M 3) 103 0 0) 3) := by
          unfold fX11_nights
          simp only [sp_do]
          rw [if_neg b1, if_neg b2, u0, u1]
          by_cases hn0 : n = 0
          · rw [if_pos (by rw [hn0]; rfl), tl_3]; rfl
          · rw [if_neg (nI_ne0 (by omega) (by omega)), if_pos (by rw [h0.resolve_left hn0]; rfl), tl_3]; rfl
        exact ⟨_, glue (b := fun m => fX11_nights F m w1 w2) e1 e2, Inv_ref hI⟩
      · have hn0 : 0 < n := by omega
        have hp0 : 0 < p := by omega
        obtain ⟨sd, hsd, rfl⟩ := n_of (n := 1000001) h1.1 (by omega)
        obtain ⟨q, hq, rfl⟩ := n_of (a := w2) (n := 61) (by omega) (by omega)
        obtain ⟨A, a3, a4, a5, a6, a7⟩ := copy_CX (o0 := 39) hC (by omega) (by omega) (by omega) (by unfold sp_room; simp) (by unfold sp_room; simp)
        let A1 := sp_setI (sp_setI A 0 11 1) 77 6 (nI sd)
        have hfA : sp_fr [] [(0, 11), (77, 6)] A A1 := (sp_fr_I (Or.inr (by decide)) rfl).tr (sp_fr_I (Or.inr (by decide)) rfl)
        have hwA := WS_fr0 hfA (by decide +kernel) (by decide +kernel) (a5 hw)
        have hCA : CX F A1 39 (rM M) lf n 999 := by
          obtain ⟨cF, cN, co, cR, cB, cL, cn, c6⟩ := a4
          have hIA : ∀ i, i ≠ 77 → i ≠ 0 → sp_I A1 i = sp_I A i := fun i g1 g2 => funext fun j => hfA.1 i j (by simp) (by simp [g1, g2])
          refine ⟨cF, by rw [hfA.2.2.2.2.1]; exact cN, co, fun i hi => ?_, cB, Law_fr cL (fun j _ => hfA.2.2.1 _ _ (by simp) (by simp)) (fun i hi => hIA i (by omega) (by omega)) hfA.2.2.2.2.1 rfl rfl (fun _ _ _ => rfl), cn, c6⟩
          have := fa_le i hi
          rw [ro_at, hIA _ (by omega) (by omega), ← ro_at]
          exact cR i hi
        obtain ⟨A2, g1, g2, g3⟩ := ni_c (F := F) (o := 39) (lf := lf) (kx := fun b14 M13 => some (b14, M13)) rfl (show q ≤ 60 by omega) hn0 hp0 hp5 q 0 F A1 (sd, rM M, 0) (by omega) (by omega) (by omega) (I_eq _ _ _ _) hCA hp hwA
        have hcnt := ntF_c (lf := lf) (n := n) (p := p) q (sd, rM M, 0)
        have hout : ∀ j, (j < 5 ∨ 26 ≤ j) → (ntF lf n p q (sd, rM M, 0)).2.1 j = rM M j := fun j hj => ntF_out hj hn0 h6 hp0 hp5 q (sd, rM M, 0)
        generalize hst : ntF lf n p q (sd, rM M, 0) = st at g1 g2 hcnt hout
        have hcnt : st.2.2 ≤ 0 + q := hcnt
        let M1 := sp_setI A2 0 12 0
        have e1 : fX10_nights F M (nI sd) (nI q) = some (nI st.2.2, M1) := by
          have g1 : fX1_playNights_l11 F 39 _ F (nI q) 0 0 A1 = _ := g1
          unfold fX10_nights fX1_playNights
          rw [if_neg a1, if_neg a2, e4, e8, if_neg (nI_ne0 hn0 (by omega)), if_neg (nI_ne0 hp0 (by omega)), a3, Option.bind_some]
          simp only [sp_do]
          show (fX1_playNights_l11 F 39 _ F (nI q) 0 0 A1).bind _ = _
          rw [g1]
          rfl
        have hpn : fX1_playNights F (sp_setI A 0 11 1) 39 (nI sd) (nI q) = some (nI st.2.2, A2) := g1
        have fpn := frX1_playNights hpn
        have hAM : ∀ i j, i = 102 ∨ i = 104 → sp_I A2 i j = sp_I M i j := by
          intro i j hi
          rcases hi with rfl | rfl
          · rw [fpn.1 102 j (by decide) (by simp), I_ne _ _ _ (by decide), a7.1 102 j (by decide) (by simp)]
          · rw [fpn.1 104 j (by decide) (by simp), I_ne _ _ _ (by decide), a7.1 104 j (by decide) (by simp)]
        have f1 := frX10_nights e1
        have hr1 : rM M1 = rM M := funext fun j => f1.1 105 j (by decide) (by simp)
        have X1 : RX F (sp_setI M1 103 0 0) (rM M) lf n 999 := RX_of hX (by rw [I_nf _ _ _ (by decide)]; exact f1.1 103 20 (by decide) (by simp)) (by rw [I_ne _ _ _ (by decide)]; exact hr1)
        let B00 := sp_cpy (sp_setI M1 103 0 0) 105 108 5 736 46
        let B0 := sp_setL B00 103 52 (Int32.toInt64 (nI sd))
        have X2 : RX F B0 (rM M) lf n 999 := RX_of X1 (by show sp_I (sp_cpy (sp_setI M1 103 0 0) 105 108 5 736 46) 103 20 = _; rw [I_cpy_ne (by decide)]) (by show sp_I (sp_cpy (sp_setI M1 103 0 0) 105 108 5 736 46) 105 = _; rw [I_cpy_ne (by decide)])
        obtain ⟨B1, c1, c2, c3⟩ := ni_r (F := F) (lf := lf) (kx := fun b30 M29 => fX11_nights_j213 F b30 M29) (show q ≤ 60 by omega) hn0 hp0 hp5 q 0 F B0 (sd, rM M, 0) (by omega) (by omega) (by omega) (L_eq _ _ _ _) X2 hp
        rw [hst] at c1 c2
        have hbr : ∀ j, sp_I B1 105 j = st.2.1 j := RX_r c2
        let B2 := sp_cpy B1 105 131 5 0 46
        let B3 := sp_setI (sp_setI B2 103 54 (nI n)) 103 55 (nI p)
        let M2 := sp_setI (sp_cpy B3 108 105 736 5 46) 103 1 0
        have e2 : fX11_nights F M1 (nI sd) (nI q) = some (nI st.2.2, M2) := by
          have c1 : fX11_nights_l77 F _ F (nI q) 0 0 B0 = _ := c1
          have hk : fX11_keepAll F (sp_setI M1 103 0 0) 16 = some B00 := keep_e (q := 16) hF (by omega)
          have hpb : fX11_putBack F B3 16 = some (sp_cpy B3 108 105 736 5 46) := putB_e (q := 16) hF (by omega)
          have hl := ni_l (F := F) (M := B1) (a1 := nI st.2.2) (kx := fun b36 M35 => sp_do (sp_setI M35 103 54 (sp_I M35 105 0)) fun M37 => sp_do (sp_setI M37 103 55 (sp_I M37 105 1)) fun M38 => (fX11_putBack F M38 16).bind fun M39 => (fX11_tell M39 b36).bind fun x40 => some (x40.1, x40.2)) 46 0 F (by omega) (by omega)
          rw [cpy_0] at hl
          have hl : fX11_nights_j213 F (nI st.2.2) B1 = _ := hl
          have z0 : sp_I B2 105 0 = nI n := by
            show sp_I (sp_cpy B1 105 131 5 0 46) 105 0 = _
            rw [I_cpy_ne (by decide), hbr, hout 0 (by omega)]; exact hn
          have z1 : sp_I (sp_setI B2 103 54 (nI n)) 105 1 = nI p := by
            rw [I_ne _ _ _ (by decide)]
            show sp_I (sp_cpy B1 105 131 5 0 46) 105 1 = _
            rw [I_cpy_ne (by decide), hbr, hout 1 (by omega)]; exact hp
          unfold fX11_nights
          simp only [sp_do] at hl ⊢
          rw [if_neg b1, if_neg b2, RX_r X1, RX_r X1, hn, hp, if_neg (nI_ne0 hn0 (by omega)), if_neg (nI_ne0 hp0 (by omega)), hk, Option.bind_some]
          show fX11_nights_l77 F _ F (nI q) 0 0 B0 = _
          rw [c1, hl]
          show (fX11_putBack F (sp_setI (sp_setI B2 103 54 (sp_I B2 105 0)) 103 55 (sp_I (sp_setI B2 103 54 (sp_I B2 105 0)) 105 1)) 16).bind _ = _
          rw [z0, z1, hpb, Option.bind_some, tell_g _ (nI_pos' (by omega))]
          rfl
        have f2 := frX11_nights e2
        refine ⟨M2, glue (b := fun m => fX11_nights F m (nI sd) (nI q)) e1 e2, ?_⟩
        have h108 : ∀ j, sp_I B3 108 j = if 736 ≤ j ∧ j < 736 + 46 then rM M (5 + (j - 736)) else sp_I M 108 j := by
          intro j
          show sp_I (sp_setI (sp_setI (sp_cpy B1 105 131 5 0 46) 103 54 (nI n)) 103 55 (nI p)) 108 j = _
          rw [I_ne _ _ _ (by decide), I_ne _ _ _ (by decide), I_cpy_ne (by decide), c3.1 108 j (by decide) (by simp)]
          show sp_I (sp_cpy (sp_setI M1 103 0 0) 105 108 5 736 46) 108 j = _
          rw [I_cpy, I_ne _ _ _ (by decide), I_ne _ _ _ (by decide)]
          by_cases hj : 736 ≤ j ∧ j < 736 + 46
          · rw [if_pos hj, if_pos hj]; exact congrFun hr1 _
          · rw [if_neg hj, if_neg hj]; exact f1.1 108 j (by decide) (by simp)
        have hrow : rM M2 = rM M := by
          show sp_I (sp_setI (sp_cpy B3 108 105 736 5 46) 103 1 0) 105 = _
          rw [I_ne _ _ _ (by decide)]
          refine pb_row2 (fun j hj => ?_) (fun i hi => ?_)
          · show sp_I (sp_setI (sp_setI (sp_cpy B1 105 131 5 0 46) 103 54 (nI n)) 103 55 (nI p)) 105 j = _
            rw [I_ne _ _ _ (by decide), I_ne _ _ _ (by decide), I_cpy_ne (by decide), hbr]
            exact hout j (by omega)
          · rw [h108, if_pos (by omega), show 736 + i - 736 = i by omega]
        have hA2 : ∀ i j, i ≠ 105 → i ≠ 103 → i ≠ 108 → i ≠ 131 → i ≠ 0 → i ≠ 124 → i ≠ 125 → i ≠ 121 → i ≠ 123 → i ≠ 104 → sp_I M2 i j = sp_I A2 i j := by
          intro i j g1 g2 g3 g4 g5 g6 g7 g8 g9 g10
          rw [f2.1 i j (by simp [g1, g3, g4, g6, g7, g8, g9, g10]) (by simp [g2])]
          exact congrFun (I_ne _ _ _ g5) j
        have h131 : ∀ j, j < 46 → sp_I M2 131 j = st.2.1 (5 + j) := by
          intro j hj
          show sp_I (sp_setI (sp_cpy (sp_setI (sp_setI (sp_cpy B1 105 131 5 0 46) 103 54 (nI n)) 103 55 (nI p)) 108 105 736 5 46) 103 1 0) 131 j = _
          rw [I_ne _ _ _ (by decide), I_cpy_ne (by decide), I_ne _ _ _ (by decide), I_ne _ _ _ (by decide), I_cpy, if_pos (by omega), Nat.sub_zero, hbr]
        have hR2 := g2.2.2.2.1
        refine Inv_paper (f1.tr2 f2) hI (by decide +kernel) ?_ (by decide +kernel) hrow (by decide +kernel) (fun j hj => ?_) (by decide +kernel) (Or.inr ?_) (by decide +kernel) (Or.inr (Or.inr ⟨?_, ?_, ?_, ⟨n, h6, ?_⟩, ⟨p, hp5, ?_⟩, fun k hk => ⟨?_, ?_⟩, fun k hk => ?_⟩)) (by decide +kernel)
        · exact WS_fr0 f2 (by decide +kernel) (by decide +kernel) (WS_fr0 (A := []) (B := [(0, 12)]) (sp_fr_I (Or.inr (by decide)) rfl) (by decide +kernel) (by decide +kernel) g3)
        · show sp_I (sp_setI (sp_cpy B3 108 105 736 5 46) 103 1 0) 108 j = _
          rw [I_ne _ _ _ (by decide), I_cpy_ne (by decide), h108, if_neg (by omega)]
        · have hd : dj [] [(0, 13), (0, 14), (0, 15), (103, 11), (103, 18), (103, 50), (103, 20)] ([102, 40, 41, 42, 43, 44, 45, 46, 47, 48, 49, 50, 4, 3] ++ [104, 108, 124, 121, 123, 105, 125, 131]) ([(0, 12), (39, 4), (39, 8), (39, 11), (39, 14), (39, 15), (0, 11), (77, 6)] ++ [(103, 0), (103, 1), (103, 52), (103, 34), (103, 38), (103, 39), (103, 40), (103, 54), (103, 55)]) = true := by decide +kernel
          have hfr := f1.tr2 f2
          have hc39 : sp_fr [40, 41, 42, 43, 44, 45, 46, 47, 48, 49, 50] [(39, 4), (39, 8), (39, 11), (39, 14), (39, 15)] M A := a7
          refine i_M_grant hI.2.2.2.2.1 ?_ ?_ ?_ (I_eq _ _ _ _) ?_ ?_
          · funext j
            rw [hA2 102 j (by decide) (by decide) (by decide) (by decide) (by decide) (by decide) (by decide) (by decide) (by decide) (by decide)]
            exact hAM 102 j (Or.inl rfl)
          · funext j
            show sp_I (sp_setI (sp_cpy (sp_setI (sp_setI (sp_cpy B1 105 131 5 0 46) 103 54 (nI n)) 103 55 (nI p)) 108 105 736 5 46) 103 1 0) 104 j = _
            rw [I_ne _ _ _ (by decide), I_cpy_ne (by decide), I_ne _ _ _ (by decide), I_ne _ _ _ (by decide), I_cpy_ne (by decide), c3.1 104 j (by decide) (by simp)]
            show sp_I (sp_cpy (sp_setI (sp_setI A2 0 12 0) 103 0 0) 105 108 5 736 46) 104 j = _
            rw [I_cpy_ne (by decide), I_ne _ _ _ (by decide), I_ne _ _ _ (by decide)]
            exact hAM 104 j (Or.inr rfl)
          · rw [f2.1 0 12 (by decide) (by decide)]; exact I_eq _ _ _ _
          · intro j hj; rcases hj with rfl | rfl | rfl
            · exact fr_B hfr hd 0 13 (by decide)
            · exact fr_B hfr hd 0 14 (by decide)
            · exact fr_B hfr hd 0 15 (by decide)
          · intro j hj; rcases hj with rfl | rfl | rfl | rfl
            · exact fr_B hfr hd 103 11 (by decide)
            · exact fr_B hfr hd 103 18 (by decide)
            · exact fr_B hfr hd 103 50 (by decide)
            · exact fr_B hfr hd 103 20 (by decide)
        · rw [f2.1 0 11 (by decide) (by decide)]
          show sp_I (sp_setI A2 0 12 0) 0 11 = 1
          rw [I_nf _ _ _ (by decide), fpn.1 0 11 (by decide) (by simp), I_eq]
        · rw [hA2 39 4 (by decide) (by decide) (by decide) (by decide) (by decide) (by decide) (by decide) (by decide) (by decide) (by decide), (rm_s hR2).trans g2.2.2.2.2.2.2.1]
          show _ = sp_I (sp_setI (sp_cpy (sp_setI (sp_setI B2 103 54 (nI n)) 103 55 (nI p)) 108 105 736 5 46) 103 1 0) 103 54
          rw [I_nf _ _ _ (by decide), I_cpy_ne (by decide), I_nf _ _ _ (by decide), I_eq]
        · rw [hA2 39 8 (by decide) (by decide) (by decide) (by decide) (by decide) (by decide) (by decide) (by decide) (by decide) (by decide), rm_p hR2, hout 1 (by omega)]
          show _ = sp_I (sp_setI (sp_cpy (sp_setI (sp_setI B2 103 54 (nI n)) 103 55 (nI p)) 108 105 736 5 46) 103 1 0) 103 55
          rw [I_nf _ _ _ (by decide), I_cpy_ne (by decide), I_eq]
          exact hp
        · show sp_I (sp_setI (sp_cpy (sp_setI (sp_setI B2 103 54 (nI n)) 103 55 (nI p)) 108 105 736 5 46) 103 1 0) 103 54 = _
          rw [I_nf _ _ _ (by decide), I_cpy_ne (by decide), I_nf _ _ _ (by decide), I_eq]
        · show sp_I (sp_setI (sp_cpy (sp_setI (sp_setI B2 103 54 (nI n)) 103 55 (nI p)) 108 105 736 5 46) 103 1 0) 103 55 = _
          rw [I_nf _ _ _ (by decide), I_cpy_ne (by decide), I_eq]
        · rw [hA2 41 k (by decide) (by decide) (by decide) (by decide) (by decide) (by decide) (by decide) (by decide) (by decide) (by decide), h131 (4 + k) (by omega), show 5 + (4 + k) = 9 + k by omega]
          exact rm_cell hR2 hk
        · rw [hA2 42 k (by decide) (by decide) (by decide) (by decide) (by decide) (by decide) (by decide) (by decide) (by decide) (by decide), h131 (10 + k) (by omega), show 5 + (10 + k) = 15 + k by omega]
          exact rm_heat hR2 hk
        · rw [hA2 44 k (by decide) (by decide) (by decide) (by decide) (by decide) (by decide) (by decide) (by decide) (by decide) (by decide), h131 (16 + k) (by omega), show 5 + (16 + k) = 21 + k by omega]
          exact rm_stand hR2 hk
    · have e1 : fX10_nights F M w1 w2 = some (-1, rfM M 1) := by
        unfold fX10_nights
        rw [if_neg a1, if_pos (hz2.mpr h2), rf_1]; rfl
      have e2 : fX11_nights F (rfM M 1) w1 w2 = some (-1, tlM (sp_setI (rfM M 1) 103 0 0) 1) := by
        unfold fX11_nights
        simp only [sp_do]
        rw [if_neg b1, if_pos (hy2.mpr h2), tl_1]; rfl
      exact ⟨_, glue (b := fun m => fX11_nights F m w1 w2) e1 e2, Inv_ref hI⟩
  · have e1 : fX10_nights F M w1 w2 = some (-1, rfM M 1) := by
      unfold fX10_nights
      rw [if_pos (hz1.mpr h1), rf_1]; rfl
    have e2 : fX11_nights F (rfM M 1) w1 w2 = some (-1, tlM (sp_setI (rfM M 1) 103 0 0) 1) := by
      unfold fX11_nights
      simp only [sp_do]
      rw [if_pos (hy1.mpr h1), tl_1]; rfl
    exact ⟨_, glue (b := fun m => fX11_nights F m w1 w2) e1 e2, Inv_ref hI⟩
