/-! ===== of, asks, count, lessons ===== -/
theorem glue {α : Type} [DecidableEq α] {a : Option (α × sp_Mem)} {b : sp_Mem → Option (α × sp_Mem)} {v : α} {M1 M2 : sp_Mem} (h1 : a = some (v, M1)) (h2 : b M1 = some (v, M2)) : (a.bind fun x1 => (b x1.2).bind fun x2 => if x1.1 = x2.1 then some x2.2 else none) = some M2 := by
  rw [h1, Option.bind_some]
  dsimp only
  rw [h2, Option.bind_some, if_pos rfl]
theorem glue0 {a : Option Int32} {b : Option (Int32 × sp_Mem)} {v : Int32} {M2 : sp_Mem} (h1 : a = some v) (h2 : b = some (v, M2)) : (a.bind fun v1 => b.bind fun x2 => if v1 = x2.1 then some x2.2 else none) = some M2 := by
  rw [h1, Option.bind_some, h2, Option.bind_some, if_pos rfl]
section InvX
variable {F k n : Nat} {M M1 : sp_Mem} {r : Nat → Int32} {lf : Option (List ev_C)} {T : Int}
theorem Inv_X (hF : 1000 ≤ F) (hI : Inv k M) : ∃ lf n, CX F M 6 (rM M) lf n 999 ∧ RX F M (rM M) lf n 999 := by
  obtain ⟨hR, hB, hL⟩ := hI.2.1
  obtain ⟨lf, hlf⟩ := Law_ex hB.1 hL
  obtain ⟨n, hn, en⟩ := hB.1.1
  exact ⟨lf, n, ⟨hF, ws_N hI.1 4 10 (by decide) (by decide), ⟨by omega, by omega⟩, hR, ⟨by decide, BT_of hB⟩, hlf, en, hn⟩, ⟨hF, hI.2.2.2.2.1.2.2.2.2.2, rfl, ⟨by decide, BT_of hB⟩, hlf.q, en, hn⟩⟩
theorem RX_of (h : RX F M r lf n T) (h20 : sp_I M1 103 20 = sp_I M 103 20) (hr : sp_I M1 105 = sp_I M 105) : RX F M1 r lf n T := ⟨h.1, h20.trans h.2.1, hr.trans h.2.2.1, h.2.2.2⟩
theorem RX_0 (h : RX F M r lf n T) (hf : sp_fr [4, 3] [] M M1) : RX F (sp_setI M1 103 0 0) r lf n T := by
  refine RX_of h ?_ ?_
  · rw [I_nf _ _ _ (by decide)]; exact hf.1 103 20 (by decide) (by simp)
  · rw [I_ne _ _ _ (by decide)]; exact funext fun j => hf.1 105 j (by decide) (by simp)
theorem RX_00 (h : RX F M r lf n T) : RX F (sp_setI M 103 0 0) r lf n T := RX_0 h (sp_fr.refl _ _ _)
theorem RX_s (h : RX F M r lf n T) (a : Int32) : fX11_isSpark M a = some (if 0 ≤ a.toInt ∧ a.toInt < n then 1 else 0) := is_s (show n < 100 by have := h.2.2.2.2.2.2; omega) ((RX_r h 0).trans h.2.2.2.2.2.1) a
theorem RX_l (h : RX F M r lf n T) {s : Nat} (hs : s < 6) : fX11_isLoose M (nI s) = some (if r (9 + s) = -1 then 0 else 1) := by
  unfold fX11_isLoose
  rw [show (9 : Int32) + nI s = nI (9 + s) from nI_add 9 s, sp_ix_nI (show 9 + s < 5480 by omega) (by omega), Option.bind_some, RX_r h]
theorem RX_at (h : RX F M r lf n T) {a j : Nat} (hj : a + j < 5480) : sp_ix 5480 (nI a + nI j) = some (a + j) := by
  rw [nI_add]; exact sp_ix_nI hj (by omega)
end InvX
/-- of -/
theorem op_1 {F k : Nat} {M : sp_Mem} (hF : 1000 ≤ F) (hI : Inv k M) (w1 w2 : Int32) : ∃ p, gL_1 F M w1 w2 = some p ∧ Inv (k + 1) p := by
  obtain ⟨lf, n, hC, hX⟩ := Inv_X hF hI
  suffices hx : ∃ v M1 M2, fX10_of F M w1 w2 = some (v, M1) ∧ fX11_of F M1 w1 w2 = some (v, M2) by
    obtain ⟨v, M1, M2, e1, e2⟩ := hx
    exact ⟨M2, glue (b := fun m => fX11_of F m w1 w2) e1 e2, Inv_keep ((frX10_of e1).tr2 (frX11_of e2)) (by decide +kernel) hI⟩
  have h6 := hC.2.2.2.2.2.2.2
  have hR := hC.2.2.2.1
  have hn := hC.2.2.2.2.2.2.1
  have hB := hC.2.2.2.2.1.2
  have X0 := RX_00 hX
  unfold fX10_of fX11_of
  simp only [sp_do, has_s (show n < 100 by omega) ((rm_s hR).trans hn)]
  by_cases hs : 0 ≤ w1.toInt ∧ w1.toInt < n
  · obtain ⟨s, hs', rfl⟩ := n_of hs.1 hs.2
    rw [if_neg (by simpa using hs), sp_ix_nI (show s < 6 by omega) (by omega), Option.bind_some, show sp_I M 8 s = rM M (9 + s) from rm_cell hR (show s < 6 by omega)]
    unfold fX10_of_j32
    simp only [sp_ix_nI (show s < 6 by omega) (by omega), Option.bind_some]
    by_cases a0 : w2 = 0
    · rw [if_pos a0]
      refine ⟨_, _, sp_setI M 103 0 0, rfl, ?_⟩
      rw [RX_s X0, if_pos hs, Option.bind_some, if_neg (by decide), if_pos a0, show (9 : Int32) + nI s = nI (9 + s) from nI_add 9 s, sp_ix_nI (show 9 + s < 5480 by omega) (by omega), Option.bind_some, RX_r X0, show sp_I M 8 s = rM M (9 + s) from rm_cell hR (show s < 6 by omega)]
    rw [if_neg a0]
    by_cases a1 : w2 = 1
    · rw [if_pos a1]
      refine ⟨_, _, sp_setI M 103 0 0, rfl, ?_⟩
      rw [RX_s X0, if_pos hs, Option.bind_some, if_neg (by decide), if_neg a0, if_pos a1, show (15 : Int32) + nI s = nI (15 + s) from nI_add 15 s, sp_ix_nI (show 15 + s < 5480 by omega) (by omega), Option.bind_some, RX_r X0, show sp_I M 9 s = rM M (15 + s) from rm_heat hR (show s < 6 by omega)]
    rw [if_neg a1]
    by_cases a2 : w2 = 2
    · rw [if_pos a2]
      refine ⟨_, _, sp_setI M 103 0 0, rfl, ?_⟩
      rw [RX_s X0, if_pos hs, Option.bind_some, if_neg (by decide), if_neg a0, if_neg a1, if_pos a2, show (51 : Int32) + nI s = nI (51 + s) from nI_add 51 s, sp_ix_nI (show 51 + s < 5480 by omega) (by omega), Option.bind_some, RX_r X0, show sp_I M 10 s = rM M (51 + s) from rm_name hR (show s < 6 by omega)]
    rw [if_neg a2]
    by_cases a3 : w2 = 3
    · rw [if_pos a3]
      rcases bt_cell hB (show s < 6 by omega) with hm | ⟨x, hx, ex⟩
      · rw [if_pos hm, if_neg (by decide)]
        refine ⟨_, _, sp_setI M 103 0 0, rfl, ?_⟩
        rw [RX_s X0, if_pos hs, Option.bind_some, if_neg (by decide), if_neg a0, if_neg a1, if_neg a2, if_pos a3, RX_l X0 (by omega), Option.bind_some, if_pos hm, if_pos rfl]
      · have hl : ¬ rM M (9 + s) = -1 := by rw [ex]; exact nI_m1 (by omega)
        obtain ⟨M1, e1, e2⟩ := way_c hC hs' ex hx
        have X1 := RX_0 hX e2
        obtain ⟨M2, g1, g2⟩ := way_r X1 hs' ex hx
        rw [if_neg hl, if_pos rfl, e1, Option.bind_some]
        refine ⟨_, _, M2, rfl, ?_⟩
        dsimp only
        rw [RX_s X1, if_pos hs, Option.bind_some, if_neg (by decide), if_neg a0, if_neg a1, if_neg a2, if_pos a3, RX_l X1 (by omega), Option.bind_some, if_neg hl, if_neg (by decide), g1, Option.bind_some]
    rw [if_neg a3]
    by_cases a4 : w2 = 4
    · rw [if_pos a4]
      rcases bt_cell hB (show s < 6 by omega) with hm | ⟨x, hx, ex⟩
      · rw [if_pos hm, if_neg (by decide)]
        refine ⟨_, _, sp_setI M 103 0 0, rfl, ?_⟩
        rw [RX_s X0, if_pos hs, Option.bind_some, if_neg (by decide), if_neg a0, if_neg a1, if_neg a2, if_neg a3, if_pos a4, RX_l X0 (by omega), Option.bind_some, if_pos hm, if_pos rfl]
      · have hl : ¬ rM M (9 + s) = -1 := by rw [ex]; exact nI_m1 (by omega)
        obtain ⟨M1, e1, e2⟩ := burn_c hC hs' ex hx
        have X1 := RX_0 hX e2
        obtain ⟨M2, g1, g2⟩ := burn_r X1 hs' ex hx
        rw [if_neg hl, if_pos rfl, e1, Option.bind_some]
        refine ⟨_, _, M2, rfl, ?_⟩
        dsimp only
        rw [RX_s X1, if_pos hs, Option.bind_some, if_neg (by decide), if_neg a0, if_neg a1, if_neg a2, if_neg a3, if_pos a4, RX_l X1 (by omega), Option.bind_some, if_neg hl, if_neg (by decide), g1, Option.bind_some]
    rw [if_neg a4]
    by_cases a5 : w2 = 5
    · obtain ⟨p, hp5, hp⟩ := bt_p hB
      rw [if_pos a5, knowers_c hF hR hB hp hp5 (by omega), Option.bind_some]
      refine ⟨_, _, sp_setI M 103 0 0, rfl, ?_⟩
      rw [RX_s X0, if_pos hs, Option.bind_some, if_neg (by decide), if_neg a0, if_neg a1, if_neg a2, if_neg a3, if_neg a4, if_pos a5, knownTo_r hF (RX_r X0) hB hp hp5 (by omega), Option.bind_some]
    · rw [if_neg a5]
      refine ⟨_, _, sp_setI M 103 0 0, rfl, ?_⟩
      rw [RX_s X0, if_pos hs, Option.bind_some, if_neg (by decide), if_neg a0, if_neg a1, if_neg a2, if_neg a3, if_neg a4, if_neg a5]
  · rw [if_pos hs]
    refine ⟨_, _, sp_setI M 103 0 0, rfl, ?_⟩
    rw [RX_s X0, if_neg hs, Option.bind_some, if_pos rfl]
/-- asks -/
theorem op_5 {F k : Nat} {M : sp_Mem} (hF : 1000 ≤ F) (hI : Inv k M) (w1 w2 w3 : Int32) : ∃ p, gL_5 F M w1 w2 w3 = some p ∧ Inv (k + 1) p := by
  obtain ⟨lf, n, hC, hX⟩ := Inv_X hF hI
  suffices hx : ∃ v M1 M2, fX10_asks F M w1 w2 w3 = some (v, M1) ∧ fX11_asks F M1 w1 w2 w3 = some (v, M2) by
    obtain ⟨v, M1, M2, e1, e2⟩ := hx
    exact ⟨M2, glue (b := fun m => fX11_asks F m w1 w2 w3) e1 e2, Inv_keep ((frX10_asks e1).tr2 (frX11_asks e2)) (by decide +kernel) hI⟩
  have h6 := hC.2.2.2.2.2.2.2
  have hR := hC.2.2.2.1
  have hn := hC.2.2.2.2.2.2.1
  have hB := hC.2.2.2.2.1.2
  have X0 := RX_00 hX
  obtain ⟨p, hp5, hp⟩ := bt_p hB
  have hP : ∀ M1, RX F M1 (rM M) lf n 999 → ∀ a, fX11_isPerson M1 a = some (if 0 ≤ a.toInt ∧ a.toInt < p then 1 else 0) := fun M1 h a => is_p (show p < 100 by omega) ((RX_r h 1).trans hp) a
  unfold fX10_asks fX11_asks fX5_hasLoose
  simp only [sp_do, has_s (show n < 100 by omega) ((rm_s hR).trans hn), has_p (show p < 100 by omega) ((rm_p hR).trans hp)]
  by_cases hs : 0 ≤ w1.toInt ∧ w1.toInt < n
  · obtain ⟨s, hs', rfl⟩ := n_of hs.1 hs.2
    rw [if_neg (by simpa using hs), sp_ix_nI (show s < 6 by omega) (by omega), Option.bind_some, Option.bind_some, show sp_I M (6 + 2) s = rM M (9 + s) from rm_cell hR (show s < 6 by omega)]
    by_cases hq : 0 ≤ w2.toInt ∧ w2.toInt < p
    · obtain ⟨q, hq', rfl⟩ := n_of hq.1 hq.2
      rcases bt_cell hB (show s < 6 by omega) with hm | ⟨x, hx, ex⟩
      · rw [if_pos hm, if_pos rfl]
        refine ⟨_, _, sp_setI M 103 0 0, rfl, ?_⟩
        rw [RX_s X0, if_pos hs, Option.bind_some, if_neg (by decide), hP _ X0, if_pos hq, Option.bind_some, if_neg (by decide), RX_l X0 (by omega), Option.bind_some, if_pos hm, if_pos rfl]
      · have hl : ¬ rM M (9 + s) = -1 := by rw [ex]; exact nI_m1 (by omega)
        rw [if_neg hl, if_neg (by decide), if_neg (by simpa using hq), Option.bind_some, show sp_I M 8 s = nI x from (rm_cell hR (show s < 6 by omega)).trans ex, sp_ix_nI (show q < 5 by omega) (by omega), Option.bind_some]
        have hpre : ∀ M1 (X1 : RX F M1 (rM M) lf n 999) {α : Type} (A B : Option α), ((fX11_isSpark M1 (nI s)).bind fun v2 => if v2 = 0 then A else ((fX11_isPerson M1 (nI q)).bind fun v4 => if v4 = 0 then A else ((fX11_isLoose M1 (nI s)).bind fun v6 => if v6 = 0 then A else B))) = B := by
          intro M1 X1 α A B
          rw [RX_s X1, if_pos hs, Option.bind_some, if_neg (by decide), hP _ X1, if_pos hq, Option.bind_some, if_neg (by decide), RX_l X1 (by omega), Option.bind_some, if_neg hl, if_neg (by decide)]
        by_cases a0 : w3 = 0
        · obtain ⟨z, hz, ez⟩ := bt_stand hB (show q < 5 by omega)
          rw [if_pos a0, show sp_I M 11 q = nI z from (rm_stand hR (show q < 5 by omega)).trans ez, (far_e x hx z hz).1, Option.bind_some]
          refine ⟨_, _, sp_setI M 103 0 0, rfl, ?_⟩
          rw [hpre _ X0, if_pos a0, show (9 : Int32) + nI s = nI (9 + s) from nI_add 9 s, sp_ix_nI (show 9 + s < 5480 by omega) (by omega), Option.bind_some, show (21 : Int32) + nI q = nI (21 + q) from nI_add 21 q, sp_ix_nI (show 21 + q < 5480 by omega) (by omega), Option.bind_some, RX_r X0, RX_r X0, ex, ez, (far_e x hx z hz).2.1, Option.bind_some]
        rw [if_neg a0]
        by_cases a1 : w3 = 1
        · obtain ⟨y, M1, e1, e2, e3⟩ := shun_c hC hs' hx (show q < 5 by omega)
          have X1 := RX_0 hX e2
          obtain ⟨M2, g1, g2⟩ := shun_r X1 hs' hx (show q < 5 by omega)
          unfold fX6_isShunned
          rw [if_pos a1, e1, Option.bind_some, Option.bind_some]
          refine ⟨_, _, M2, rfl, ?_⟩
          dsimp only
          rw [hpre _ X1, if_neg a0, if_pos a1, show (9 : Int32) + nI s = nI (9 + s) from nI_add 9 s, sp_ix_nI (show 9 + s < 5480 by omega) (by omega), Option.bind_some, RX_r X1, ex, g1, Option.bind_some, e3]
        rw [if_neg a1]
        by_cases a2 : w3 = 2
        · obtain ⟨M1, e1, e2⟩ := comes_c hC hs' hx (show q < 5 by omega)
          have X1 := RX_0 hX e2
          obtain ⟨M2, g1, g2⟩ := comes_r X1 hs' hx (show q < 5 by omega)
          rw [if_pos a2, e1, Option.bind_some]
          refine ⟨_, _, M2, rfl, ?_⟩
          dsimp only
          rw [hpre _ X1, if_neg a0, if_neg a1, if_pos a2, show (9 : Int32) + nI s = nI (9 + s) from nI_add 9 s, sp_ix_nI (show 9 + s < 5480 by omega) (by omega), Option.bind_some, RX_r X1, ex, g1, Option.bind_some]
        · rw [if_neg a2]
          refine ⟨_, _, sp_setI M 103 0 0, rfl, ?_⟩
          rw [hpre _ X0, if_neg a0, if_neg a1, if_neg a2]
    · by_cases hm : rM M (9 + s) = -1
      · rw [if_pos hm, if_pos rfl]
        refine ⟨_, _, sp_setI M 103 0 0, rfl, ?_⟩
        rw [RX_s X0, if_pos hs, Option.bind_some, if_neg (by decide), hP _ X0, if_neg hq, Option.bind_some, if_pos rfl]
      · rw [if_neg hm, if_neg (by decide), if_pos hq]
        refine ⟨_, _, sp_setI M 103 0 0, rfl, ?_⟩
        rw [RX_s X0, if_pos hs, Option.bind_some, if_neg (by decide), hP _ X0, if_neg hq, Option.bind_some, if_pos rfl]
  · rw [if_pos hs, Option.bind_some, if_pos rfl]
    refine ⟨_, _, sp_setI M 103 0 0, rfl, ?_⟩
    rw [RX_s X0, if_neg hs, Option.bind_some, if_pos rfl]
/-- count -/
theorem op_40 {F k : Nat} {M : sp_Mem} (hF : 1000 ≤ F) (hI : Inv k M) (w1 : Int32) : ∃ p, gL_40 F M w1 = some p ∧ Inv (k + 1) p := by
  obtain ⟨lf, n, hC, hX⟩ := Inv_X hF hI
  have h6 := hC.2.2.2.2.2.2.2
  have hR := hC.2.2.2.1
  have hn := hC.2.2.2.2.2.2.1
  have X0 := RX_00 hX
  have hMM := hI.2.2.2.2.1.1
  obtain ⟨u, _, _, _, u1, u2, _⟩ := hI.2.2.1
  obtain ⟨t, _, t1, t2, _⟩ := hI.2.2.2.1
  suffices hx : ∃ v, fX10_count F M w1 = some v ∧ fX11_count F M w1 = some (v, sp_setI M 103 0 0) by
    obtain ⟨v, e1, e2⟩ := hx
    exact ⟨_, glue0 e1 e2, Inv_thrown hI⟩
  unfold fX10_count fX11_count
  simp only [sp_do, w_in, m_in, n_l, show (13 : Int32).toInt = 13 from rfl, show (16 : Int32).toInt = 16 from rfl, show (13 : Int64).toInt = 13 from rfl, show (16 : Int64).toInt = 16 from rfl]
  by_cases a0 : w1 = 0
  · rw [if_pos a0, if_pos a0]; exact ⟨_, rfl, by rw [RX_r X0, rm_s hR]⟩
  rw [if_neg a0, if_neg a0]
  by_cases a1 : w1 = 1
  · rw [if_pos a1, if_pos a1, loose_c hF hR hn h6, Option.bind_some, loose_r hF (RX_r X0) hn h6, Option.bind_some, loose_o hF h6, Option.bind_some]
    exact ⟨_, rfl, rfl⟩
  rw [if_neg a1, if_neg a1]
  by_cases a2 : w1 = 2
  · rw [if_pos a2, if_pos a2]; exact ⟨_, rfl, by rw [RX_r X0, rm_p hR]⟩
  rw [if_neg a2, if_neg a2]
  by_cases a3 : w1 = 3
  · rw [if_pos a3, if_pos a3]; exact ⟨_, rfl, by rw [RX_r X0, rm_a hR]⟩
  rw [if_neg a3, if_neg a3]
  by_cases a4 : w1 = 4
  · rw [if_pos a4, if_pos a4]; exact ⟨_, rfl, by rw [RX_r X0, rm_l hR]⟩
  rw [if_neg a4, if_neg a4]
  by_cases a5 : w1 = 5
  · rw [if_pos a5, if_pos a5]; exact ⟨_, rfl, by rw [I_nf _ _ _ (by decide), u1, u2]⟩
  rw [if_neg a5, if_neg a5]
  by_cases a6 : w1 = 6
  · rw [if_pos a6, if_pos a6]; exact ⟨_, rfl, by rw [I_nf _ _ _ (by decide), t1, t2]⟩
  rw [if_neg a6, if_neg a6]
  by_cases a7 : w1 = 7
  · rw [if_pos a7, if_pos a7]; exact ⟨_, rfl, by rw [I_ne _ _ _ (by decide), hMM 1 (by omega)]⟩
  rw [if_neg a7, if_neg a7]
  by_cases a8 : w1 = 8
  · rw [if_pos a8, if_pos a8]; exact ⟨_, rfl, by rw [I_ne _ _ _ (by decide), hMM 2 (by omega)]⟩
  rw [if_neg a8, if_neg a8]
  by_cases a9 : w1 = 9
  · rw [if_pos a9, if_pos a9]; exact ⟨_, rfl, by rw [I_ne _ _ _ (by decide), hMM 3 (by omega)]⟩
  rw [if_neg a9, if_neg a9]
  by_cases b0 : w1 = 10
  · rw [if_pos b0, if_pos b0]; exact ⟨_, rfl, by rw [I_ne _ _ _ (by decide), hMM 5 (by omega)]⟩
  rw [if_neg b0, if_neg b0]
  by_cases b1 : w1 = 11
  · rw [if_pos b1, if_pos b1]; exact ⟨_, rfl, by rw [I_ne _ _ _ (by decide), hMM 6 (by omega)]⟩
  rw [if_neg b1, if_neg b1]
  by_cases b2 : w1 = 12
  · rw [if_pos b2, if_pos b2]; exact ⟨_, rfl, by rw [RX_r X0, rm_f hR]⟩
  rw [if_neg b2, if_neg b2]
  by_cases b3 : 13 ≤ w1.toInt ∧ w1.toInt ≤ 16
  · obtain ⟨j, hj, rfl⟩ := n_of (a := w1) (n := 17) (by omega) (by omega)
    rw [nI_toInt (by omega)] at b3
    have hj2 : 13 ≤ j := by omega
    rw [nI_toInt (by omega), if_neg (by omega), if_neg (by omega), show nI j - 13 = nI (j - 13) from nI_sub (b := 13) hj2 (by omega), sp_ix_nI (show j - 13 < 4 by omega) (by omega), Option.bind_some, show (5 : Int32) + nI j = nI (5 + j) from nI_add 5 j, show nI (5 + j) - 13 = nI (5 + j - 13) from nI_sub (b := 13) (by omega) (by omega), sp_ix_nI (show 5 + j - 13 < 5480 by omega) (by omega), Option.bind_some]
    refine ⟨_, rfl, ?_⟩
    rw [RX_r X0, show sp_I M 16 (j - 13) = rM M (5 + (j - 13)) from rm_term hR (show j - 13 < 4 by omega), show 5 + j - 13 = 5 + (j - 13) by omega]
  · rw [if_pos b3, if_pos b3]
    exact ⟨_, rfl, rfl⟩
