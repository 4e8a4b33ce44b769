/-! ===== chain ===== -/
section ChainOp
variable {F k : Nat} {M : sp_Mem}
theorem find_c {n s x np : Nat} {r : Nat → Int32} {lf : Option (List ev_C)} {T : Int} (hC : CX F M 6 r lf n T) (hs : s < n) (hx : x < 25) (ex : r (9 + s) = nI x) (hnp : np ≤ 5) (hp1 : r 1 = nI np) : ∃ M', fX1_findChain F M 6 (nI s) = some (sp_I M' 93 5, M') ∧ sp_fr [92, 4, 3, 93] [] M M' ∧ i_Room M' 6 r ∧ (∀ k p, k < 6 → p < 5 → (sp_I M' 92 (k * 5 + p) = 0 ↔ ¬ chA lf r s x np k p)) ∧ ∀ p, p < 6 → chV (chA lf r s x np) (chH r) 5 p (sp_I M' 93 p) := by
  have hF := hC.1
  obtain ⟨M1, e1, e2, e3, e4, _, _⟩ := fc_k (F := F) (lf := lf) (kx := fun M23 => fX1_findChain_l125 F 6 (fun M34 => some ((sp_I M34 93 5), M34)) F 1 M23) hs hx ex hnp hp1 6 0 F M (by omega) (by omega) hC
  have hC1 : CX F M1 6 r lf n T := CX_fr3 e2 hC (by simp) (by simp)
  obtain ⟨M2, g1, g2, g3⟩ := lv_c (F := F) (A := chA lf r s x np) (kx := fun M34 => some ((sp_I M34 93 5), M34)) hF hnp hp1 (fun k p a => a.2.1) 5 0 F M1 (by omega) (by omega) hC1.2.2.2.1 (fun k p a b => e3 k p (by omega) a b) (fun p hp => Or.inr ⟨fun z => z, e4 p (by omega) hp⟩)
  have hC2 : CX F M2 6 r lf n T := CX_fr3 g2 hC1 (by simp) (by simp)
  exact ⟨M2, e1.trans g1, e2.tr (g2.mono (by decide) (by decide)), hC2.2.2.2.1, fun k p a b => by rw [g2.1 92 _ (by simp) (by simp)]; exact e3 k p (by omega) a b, g3⟩
theorem op_24 (hF : 1000 ≤ F) (hI : Inv k M) (w1 w2 : Int32) : ∃ p, gL_24 F M w1 w2 = some p ∧ Inv (k + 1) p := by
  obtain ⟨lf, n, hC, hX⟩ := Inv_X hF hI
  have h6 := hC.2.2.2.2.2.2.2
  have hR := hC.2.2.2.1
  have hn := hC.2.2.2.2.2.2.1
  have hB := hC.2.2.2.2.1.2
  obtain ⟨np, hnp, hp1⟩ := bt_p hB
  suffices hh : ∃ v M1 M2, fX10_chain F M w1 w2 = some (v, M1) ∧ fX11_chain F M1 w1 w2 = some (v, M2) by
    obtain ⟨v, M1, M2, h1, h2⟩ := hh
    refine ⟨M2, glue (b := fun M1 => fX11_chain F M1 w1 w2) h1 h2, ?_⟩
    have f1 := frX10_chain h1
    have f2 := frX11_chain h2
    exact Inv_keep (f1.tr2 f2) (by decide +kernel) hI
  unfold fX10_chain fX5_hasLoose
  by_cases hs : 0 ≤ w1.toInt ∧ w1.toInt < n
  · obtain ⟨s, hs', rfl⟩ := n_of hs.1 hs.2
    rw [if_neg (by rw [has_s (show n < 100 by omega) ((rm_s hR).trans hn)]; simpa using hs), sp_ix_nI (show s < 6 by omega) (by omega), Option.bind_some, Option.bind_some, show sp_I M (6 + 2) s = rM M (9 + s) from rm_cell hR (show s < 6 by omega)]
    rcases bt_cell hB (show s < 6 by omega) with hm | ⟨x, hx, ex⟩
    · have X0 := RX_00 hX
      refine ⟨-1, M, sp_setI M 103 0 0, by rw [if_pos hm, if_pos rfl], ?_⟩
      unfold fX11_chain
      simp only [sp_do]
      rw [RX_s X0, if_pos hs, Option.bind_some, if_neg (by decide), RX_l X0 (by omega), Option.bind_some, if_pos hm, if_pos rfl, ite_self]
    · have hl : ¬ rM M (9 + s) = -1 := by rw [ex]; exact nI_m1 (by omega)
      obtain ⟨M1, e1, e2, e3, e4, e5⟩ := find_c hC hs' hx ex hnp hp1
      have X1 : RX F (sp_setI M1 103 0 0) (rM M) lf n 999 := RX_of hX ((I_nf _ _ _ (by decide)).trans (e2.1 103 20 (by simp) (by simp))) ((I_ne _ _ _ (by decide)).trans (funext fun j => e2.1 105 j (by simp) (by simp)))
      obtain ⟨M2, g1, g2, g3⟩ := lay_r X1 hs' hx ex hnp hp1
      rw [if_neg hl, if_neg (by decide), e1, Option.bind_some]
      dsimp only
      have pre : ∀ (B : sp_Mem → Option (Int32 × sp_Mem)), ((fX11_isLoose (sp_setI M1 103 0 0) (nI s)).bind fun v5 => if v5 = 0 then (some ((-1 : Int32), sp_setI M1 103 0 0)) else ((fX11_layChain F (sp_setI M1 103 0 0) (nI s)).bind B)) = B M2 := by
        intro B
        rw [RX_l X1 (by omega), Option.bind_some, if_neg hl, if_neg (by decide), g1, Option.bind_some]
      by_cases hlow : w2.toInt < -1
      · refine ⟨-1, M1, sp_setI M1 103 0 0, ?_, ?_⟩
        · rw [if_neg (fun z => by rw [z] at hlow; exact absurd hlow (by decide)), if_pos (by rw [w_in]; intro z; have : (0 : Int32).toInt = 0 := rfl; omega)]
        · unfold fX11_chain
          simp only [sp_do]
          rw [RX_s X1, if_pos hs, Option.bind_some, if_neg (by decide), if_pos (by rw [Int32.lt_iff_toInt_lt]; exact hlow)]
      · have hnlow : ¬ w2 < -1 := by rw [Int32.lt_iff_toInt_lt]; exact hlow
        by_cases hr5 : chR (chA lf (rM M) s x np) (chH (rM M)) 5 5
        · obtain ⟨L, hL5, hL⟩ := chL_ex 5 hr5
          have hL1 := chL_1 hL
          have ev : sp_I M1 93 5 = nI L := by
            rcases e5 5 (by omega) with ⟨j, _, h2, h3⟩ | ⟨h1, _⟩
            · rw [h3, chL_u h2 hL]
            · exact (h1 hr5).elim
          have eu : sp_I M2 126 5 = nI L := chU_e (by omega) (g3 5 (by omega)) hL
          rw [ev]
          have far0 : ¬ (100000000 : Int32) ≤ nI L := (show ∀ L, L < 6 → ¬ (100000000 : Int32) ≤ nI L by decide +kernel) L (by omega)
          by_cases hm1 : w2 = -1
          · refine ⟨nI L, M1, M2, by rw [if_pos hm1], ?_⟩
            unfold fX11_chain
            simp only [sp_do]
            rw [RX_s X1, if_pos hs, Option.bind_some, if_neg (by decide), if_neg hnlow, pre]
            rw [eu, if_neg far0, hm1, if_pos (by rw [Int32.lt_iff_toInt_lt, nI_toInt (by omega)]; have : (-1 : Int32).toInt = -1 := rfl; omega)]
            obtain ⟨F, rfl⟩ : ∃ m, F = m + 1 := ⟨F - 1, by omega⟩
            rw [fX11_chain_l60, if_pos (by decide), if_pos rfl]
          · rw [if_neg hm1]
            have h0 : 0 ≤ w2.toInt := by
              by_cases q : w2.toInt = -1
              · exact (hm1 (n_eq.2 (by rw [q]; rfl))).elim
              · omega
            have eL : (nI L - 1).toInt = (L : Int) - 1 := by
              rw [show nI L - 1 = nI (L - 1) from nI_sub (b := 1) (by omega) (by omega), nI_toInt (by omega)]; omega
            by_cases hw : w2.toInt < L
            · obtain ⟨q, hq, rfl⟩ := n_of h0 hw
              obtain ⟨p, hp⟩ := chW_ex (q + 1) 5 L hL (by omega)
              have c1 := wk_c (F := F) e3 hF hnp hp1 (fun k p a => a.2.1) e4 e5 (show q < 100 by omega) (q + 1) 0 F 5 L p (by omega) (by omega) (by omega) hp
              obtain ⟨M3, c2⟩ := wk_r (F := F) (a3 := nI L) (kx := fun b14 b15 b16 M13 => some ((if b14 = (-1) then b15 else b16), M13)) hs' hx ex hnp hp1 (show q < 100 by omega) (q + 1) 0 F 5 L p M2 (by omega) (by omega) (by omega) g2 g3 hp
              refine ⟨nI p, M1, M3, ?_, ?_⟩
              · rw [if_neg (by rw [w_in, eL]; have : (0 : Int32).toInt = 0 := rfl; omega)]
                unfold fX1_callerInChain
                rw [show (5 : Int32) = nI 5 from rfl, show (0 : Int32) = nI 0 from rfl, c1, Option.bind_some]
              · unfold fX11_chain
                simp only [sp_do]
                rw [RX_s X1, if_pos hs, Option.bind_some, if_neg (by decide), if_neg hnlow, pre]
                rw [eu, if_neg far0, if_pos (by rw [Int32.lt_iff_toInt_lt, nI_toInt (show L < 2 ^ 31 by omega)]; exact hw)]
                refine c2.trans ?_
                rw [if_neg (nI_m1 (by omega))]
            · refine ⟨-1, M1, M2, ?_, ?_⟩
              · rw [if_pos (by rw [w_in, eL]; omega)]
              · unfold fX11_chain
                simp only [sp_do]
                rw [RX_s X1, if_pos hs, Option.bind_some, if_neg (by decide), if_neg hnlow, pre]
                rw [eu, if_neg far0, if_neg (by rw [Int32.lt_iff_toInt_lt, nI_toInt (show L < 2 ^ 31 by omega)]; exact hw)]
        · have ev : sp_I M1 93 5 = -1 := by
            rcases e5 5 (by omega) with ⟨j, _, h2, h3⟩ | ⟨_, h2⟩
            · exact (hr5 (chR_5 h2.1)).elim
            · exact h2
          have eu : sp_I M2 126 5 = nI 100000000 := chU_f (g3 5 (by omega)) hr5
          refine ⟨-1, M1, M2, ?_, ?_⟩
          · rw [ev]
            by_cases hm1 : w2 = -1
            · rw [if_pos hm1]
            · rw [if_neg hm1, if_pos (by rw [w_in]; intro z; have a : (0 : Int32).toInt = 0 := rfl; have b : (-1 - 1 : Int32).toInt = -2 := rfl; omega)]
          · unfold fX11_chain
            simp only [sp_do]
            rw [RX_s X1, if_pos hs, Option.bind_some, if_neg (by decide), if_neg hnlow, pre]
            rw [eu, if_pos (by decide)]
  · have X0 := RX_00 hX
    refine ⟨-1, M, sp_setI M 103 0 0, ?_, ?_⟩
    · rw [if_pos (by rw [has_s (show n < 100 by omega) ((rm_s hR).trans hn)]; exact hs), Option.bind_some, if_pos rfl]
    · unfold fX11_chain
      simp only [sp_do]
      rw [RX_s X0, if_neg hs, Option.bind_some, if_pos rfl]
end ChainOp
