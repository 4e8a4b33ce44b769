/-! ===== answer, feed, row ===== -/
theorem op_25 {F k : Nat} {M : sp_Mem} (hI : Inv k M) (w1 w2 : Int32) : ∃ p, gL_25 F M w1 w2 = some p ∧ Inv (k + 1) p := by
  obtain ⟨hR, hB, hL⟩ := hI.2.1
  obtain ⟨p, hp5, hp⟩ := hB.1.2.1
  obtain ⟨n, hn, en⟩ := hB.1.2.2.1
  have e8 : sp_I M 6 8 = nI p := (rm_p hR).trans hp
  have e11 : sp_I M 6 11 = nI n := (rm_a hR).trans en
  have en' : sp_I M 105 2 = nI n := en
  unfold gL_25 fX10_answer fX11_answer
  simp only [w_in, m_in, n_l, has_p (show p < 100 by omega) e8, show (0 : Int32).toInt = 0 from rfl, show (1 : Int32).toInt = 1 from rfl, show (0 : Int64).toInt = 0 from rfl, show (1 : Int64).toInt = 1 from rfl]
  by_cases h2 : 0 ≤ w2.toInt ∧ w2.toInt ≤ 1
  · by_cases h1 : 0 ≤ w1.toInt ∧ w1.toInt < p
    · by_cases h6 : n = 6
      · refine ⟨_, ?_, Inv_ref (c := 5) hI⟩
        have e1 : sp_I (sp_setI (rfM M 5) 103 0 0) 105 1 = nI p := by
          rw [I_ne _ _ _ (by omega), rf_I _ _ (by omega) (by omega)]; exact hp
        have e2 : sp_I (sp_setI (rfM M 5) 103 0 0) 105 2 = 6 := by
          rw [I_ne _ _ _ (by omega), rf_I _ _ (by omega) (by omega), en', h6]; rfl
        have e3 : ¬ nI n < 6 := by rw [h6]; decide
        simp only [h1, h2, and_self, not_true, if_false, e11, e3, rf_5, Option.bind_some, sp_do, is_p (show p < 100 by omega) e1, if_true, show ¬ (1 : Int32) = 0 by decide, e2, tl_5]
      · let M1 := sp_setI (sp_setI (sp_setI (sp_setI M 14 n w1) 15 n w2) 6 11 (nI n + 1)) 0 12 0
        let M2 := sp_setI (sp_setI (sp_setI (sp_setI (sp_setI M1 103 0 0) 105 (67 + 2 * n) w1) 105 (68 + 2 * n) w2) 105 2 (nI n + 1)) 103 1 0
        have e3 : nI n < 6 := nI_lt (b := 6) (by omega) (by omega)
        have e6 : ¬ nI n = 6 := by
          rw [n_eq, nI_toInt (by omega), show (6 : Int32).toInt = 6 from rfl]; omega
        have i1 : (67 : Int32) + 2 * nI n = nI (67 + 2 * n) := by rw [show (2 : Int32) * nI n = nI (2 * n) from nI_mul 2 n]; exact nI_add 67 _
        have z1 : ¬ (2 = 67 + 2 * n) := by omega
        have z2 : ¬ (2 = 68 + 2 * n) := by omega
        have g1 : (0 : Int32) ≤ nI n + 1 := by rw [nI_1]; exact nI_pos' (by omega)
        have ep : sp_I (sp_setI (sp_setI (sp_setI (sp_setI (sp_setI M (6 + 8) n w1) (6 + 9) n w2) 6 11 (nI n + 1)) 0 12 0) 103 0 0) 105 1 = nI p := hp
        refine ⟨M2, ?_, ?_⟩
        · simp only [h1, h2, and_self, not_true, if_false, e11, e3, if_true, fX5_addAnswer, fX10_grant, sp_do, Option.bind_some, sp_I_setI, sp_ix_nI (show n < 6 by omega) (by omega), show ¬ ((6 : Nat) = 6 + 8 ∧ (11 : Nat) = n) by omega, show ¬ ((6 : Nat) = 6 + 9 ∧ (11 : Nat) = n) by omega]
          rw [is_p (show p < 100 by omega) ep]
          simp only [h1, and_self, if_true, Option.bind_some, show ¬ (1 : Int32) = 0 by decide, if_false, Nat.reduceEqDiff, false_and, Nat.reduceAdd, en', e6, i1, nI_1 (67 + 2 * n), sp_ix_nI (show 67 + 2 * n < 5480 by omega) (by omega), show 67 + 2 * n + 1 = 68 + 2 * n by omega, sp_ix_nI (show 68 + 2 * n < 5480 by omega) (by omega), z1, z2, and_false, tell_g _ g1]
          rfl
        · have hfr : sp_fr [14, 15, 105] [(6, 11), (0, 12), (103, 0), (103, 1)] M M2 := ((((((((sp_fr_I (Or.inl (by decide)) rfl).tr (sp_fr_I (Or.inl (by decide)) rfl)).tr (sp_fr_I (Or.inr (by decide)) rfl)).tr (sp_fr_I (Or.inr (by decide)) rfl)).tr (sp_fr_I (Or.inr (by decide)) rfl)).tr (sp_fr_I (Or.inl (by decide)) rfl)).tr (sp_fr_I (Or.inl (by decide)) rfl)).tr (sp_fr_I (Or.inl (by decide)) rfl)).tr (sp_fr_I (Or.inr (by decide)) rfl)
          refine Inv_grant (r' := up (up (up (rM M) (67 + 2 * n) w1) (68 + 2 * n) w2) 2 (nI n + 1)) hfr hI (by decide +kernel) ?_ ?_ (B_a hB (by omega) en ⟨h1.1, by rw [hp, nI_toInt (by omega)]; omega⟩ h2) ?_ (fun i h1 h2 => ?_) (i_U_fr hfr (by decide +kernel) (fun k h1 h2 => ?_) hI.2.2.1) ?_
          · funext i; unfold up; simp [rM, M2, M1, sp_I_setI]
          · exact Room_ne (Room_ne (Room_ne (Room_ne (Room_ne (Room_ne (Room_up (Room_up (Room_up hR 8 n (67 + 2 * n) w1 (fx_ask n (by omega))) 9 n (68 + 2 * n) w2 (fx_rep n (by omega))) 0 11 2 (nI n + 1) fx_a) (by omega)) (by omega)) (by omega)) (by omega)) (by omega)) (by omega)
          · rw [up_n _ _ (by omega), up_n _ _ (by omega), up_n _ _ (by omega)]
          · rw [up_n _ _ (by omega), up_n _ _ (by omega), up_n _ _ (by omega)]
          · rw [up_n _ _ (by omega), up_n _ _ (by omega), up_n _ _ (by omega)]
          · simp [M2, M1, sp_I_setI]
    · refine ⟨_, ?_, Inv_ref (c := 2) hI⟩
      have e1 : sp_I (sp_setI (rfM M 2) 103 0 0) 105 1 = nI p := by
        rw [I_ne _ _ _ (by omega), rf_I _ _ (by omega) (by omega)]; exact hp
      simp only [h1, h2, and_self, not_true, not_false_iff, if_false, if_true, rf_2, Option.bind_some, sp_do, is_p (show p < 100 by omega) e1, tl_2]
  · refine ⟨_, ?_, Inv_ref (c := 1) hI⟩
    simp only [h2, not_false_iff, if_true, rf_1, Option.bind_some, sp_do, tl_1]
/-! feed -/
theorem and255 (x : Int32) : wi (x &&& 255) 0 255 := by
  have h : (x &&& 255).toBitVec.toNat ≤ 255 := by
    rw [Int32.toBitVec_and, BitVec.toNat_and]
    exact Nat.and_le_right
  have e : (x &&& 255).toInt = ((x &&& 255).toBitVec.toNat : Int) := by
    show (x &&& 255).toBitVec.toInt = _
    rw [BitVec.toInt_eq_toNat_of_lt (by omega)]
  unfold wi
  rw [e]
  omega
def fb (a : Int32) (i : Nat) : Int32 := if i = 0 then a >>> (24 &&& 31) &&& 255 else if i = 1 then a >>> (16 &&& 31) &&& 255 else if i = 2 then a >>> (8 &&& 31) &&& 255 else a >>> (0 &&& 31) &&& 255
theorem fb_wi (a : Int32) (i : Nat) : wi (fb a i) 0 255 := by
  unfold fb
  split
  · exact and255 _
  · split
    · exact and255 _
    · split
      · exact and255 _
      · exact and255 _
section Feed
variable {F n : Nat} {M : sp_Mem} {a1 : Int32}
theorem ap_1 {kx : sp_Mem → Option sp_Mem} {k : Nat} {a2 : Int32} (hn : sp_I M 94 1 = nI n) (h : n < 400) (ha : ¬ a2 < 0) : fX8_append_l3 F kx (k + 1) a1 a2 M = fX8_append_l3 F kx k a1 (a2 + (-8)) (sp_setI (sp_setI M 95 n (a1 >>> (a2 &&& 31) &&& 255)) 94 1 (nI (n + 1))) := by
  rw [fX8_append_l3]
  simp only [sp_do]
  rw [if_neg ha, hn, if_neg (show ¬ (400 : Int32) ≤ nI n from nI_ge (b := 400) h (by omega)), sp_ix_nI h (by omega), Option.bind_some, I_ne _ _ _ (show (94 : Nat) ≠ 95 by decide), hn, nI_1]
theorem ap_e (hF : 1000 ≤ F) (hn : sp_I M 94 1 = nI n) (h : n + 4 ≤ 400) : ∃ M', fX8_append F M a1 = some M' ∧ sp_I M' 94 1 = nI (n + 4) ∧ (∀ i, i < n → sp_I M' 95 i = sp_I M 95 i) ∧ (∀ i, i < 4 → sp_I M' 95 (n + i) = fb a1 i) := by
  obtain ⟨F', hF'⟩ : ∃ F', F = F' + 1 + 1 + 1 + 1 + 1 := ⟨F - 5, by omega⟩
  have e : fX8_append F M a1 = fX8_append_l3 F (fun M6 => some M6) (F' + 1 + 1 + 1 + 1 + 1) a1 24 M := by
    rw [← hF']; rfl
  rw [e, ap_1 hn (by omega) (by decide), ap_1 (n := n + 1) (I_eq _ _ _ _) (by omega) (by decide), ap_1 (n := n + 2) (I_eq _ _ _ _) (by omega) (by decide), ap_1 (n := n + 3) (I_eq _ _ _ _) (by omega) (by decide)]
  refine ⟨_, by rw [fX8_append_l3, if_pos (by decide)], I_eq _ _ _ _, fun i hi => ?_, fun i hi => ?_⟩
  · simp (disch := omega) only [I_ne, I_nf]
  · have : i = 0 ∨ i = 1 ∨ i = 2 ∨ i = 3 := by omega
    rcases this with rfl | rfl | rfl | rfl
    · simp (disch := omega) only [I_ne, I_nf, Nat.add_zero, I_eq]; rfl
    · simp (disch := omega) only [I_ne, I_nf, I_eq]; rfl
    · simp (disch := omega) only [I_ne, I_nf, I_eq]; rfl
    · simp (disch := omega) only [I_ne, I_nf, I_eq]; rfl
theorem fo_1 {kx : sp_Mem → Option sp_Mem} {k : Nat} {a2 : Int32} (hn : sp_I M 103 13 = nI n) (h : n < 400) (ha : ¬ a2 < 0) : fX11_four_l3 F kx (k + 1) a1 a2 M = fX11_four_l3 F kx k a1 (a2 + (-8)) (sp_setI (sp_setI M 112 n (a1 >>> (a2 &&& 31) &&& 255)) 103 13 (nI (n + 1))) := by
  rw [fX11_four_l3]
  simp only [sp_do]
  rw [if_neg ha, hn, sp_ix_nI h (by omega), Option.bind_some, I_ne _ _ _ (show (103 : Nat) ≠ 112 by decide), hn, nI_1]
theorem fo_e (hF : 1000 ≤ F) (hn : sp_I M 103 13 = nI n) (h : n + 4 ≤ 400) : ∃ M', fX11_four F M a1 = some M' ∧ sp_I M' 103 13 = nI (n + 4) ∧ (∀ i, i < n → sp_I M' 112 i = sp_I M 112 i) ∧ (∀ i, i < 4 → sp_I M' 112 (n + i) = fb a1 i) := by
  obtain ⟨F', hF'⟩ : ∃ F', F = F' + 1 + 1 + 1 + 1 + 1 := ⟨F - 5, by omega⟩
  have e : fX11_four F M a1 = fX11_four_l3 F (fun M6 => some M6) (F' + 1 + 1 + 1 + 1 + 1) a1 24 M := by
    rw [← hF']; rfl
  rw [e, fo_1 hn (by omega) (by decide), fo_1 (n := n + 1) (I_eq _ _ _ _) (by omega) (by decide), fo_1 (n := n + 2) (I_eq _ _ _ _) (by omega) (by decide), fo_1 (n := n + 3) (I_eq _ _ _ _) (by omega) (by decide)]
  refine ⟨_, by rw [fX11_four_l3, if_pos (by decide)], I_eq _ _ _ _, fun i hi => ?_, fun i hi => ?_⟩
  · simp (disch := omega) only [I_ne, I_nf]
  · have : i = 0 ∨ i = 1 ∨ i = 2 ∨ i = 3 := by omega
    rcases this with rfl | rfl | rfl | rfl
    · simp (disch := omega) only [I_ne, I_nf, Nat.add_zero, I_eq]; rfl
    · simp (disch := omega) only [I_ne, I_nf, I_eq]; rfl
    · simp (disch := omega) only [I_ne, I_nf, I_eq]; rfl
    · simp (disch := omega) only [I_ne, I_nf, I_eq]; rfl
end Feed
def fb5 (w1 w2 w3 w4 w5 : Int32) (i : Nat) : Int32 := if i < 4 then fb w1 i else if i < 8 then fb w2 (i - 4) else if i < 12 then fb w3 (i - 8) else if i < 16 then fb w4 (i - 12) else fb w5 (i - 16)
theorem fb5_wi (w1 w2 w3 w4 w5 : Int32) (i : Nat) : wi (fb5 w1 w2 w3 w4 w5 i) 0 255 := by
  unfold fb5
  split
  · exact fb_wi _ _
  · split
    · exact fb_wi _ _
    · split
      · exact fb_wi _ _
      · split
        · exact fb_wi _ _
        · exact fb_wi _ _
theorem fb5_of {f : Nat → Int32} {n : Nat} {f1 f2 f3 f4 : Nat → Int32} {w1 w2 w3 w4 w5 : Int32} (b1 : ∀ i, i < 4 → f1 (n + i) = fb w1 i) (k2 : ∀ i, i < n + 4 → f2 i = f1 i) (b2 : ∀ i, i < 4 → f2 (n + 4 + i) = fb w2 i) (k3 : ∀ i, i < n + 8 → f3 i = f2 i) (b3 : ∀ i, i < 4 → f3 (n + 8 + i) = fb w3 i) (k4 : ∀ i, i < n + 12 → f4 i = f3 i) (b4 : ∀ i, i < 4 → f4 (n + 12 + i) = fb w4 i) (k5 : ∀ i, i < n + 16 → f i = f4 i) (b5 : ∀ i, i < 4 → f (n + 16 + i) = fb w5 i) (i : Nat) (hi : i < 20) : f (n + i) = fb5 w1 w2 w3 w4 w5 i := by
  unfold fb5
  split
  · rw [k5 _ (by omega), k4 _ (by omega), k3 _ (by omega), k2 _ (by omega)]; exact b1 i (by omega)
  · split
    · rw [k5 _ (by omega), k4 _ (by omega), k3 _ (by omega), ← b2 (i - 4) (by omega)]; congr 1; omega
    · split
      · rw [k5 _ (by omega), k4 _ (by omega), ← b3 (i - 8) (by omega)]; congr 1; omega
      · split
        · rw [k5 _ (by omega), ← b4 (i - 12) (by omega)]; congr 1; omega
        · rw [← b5 (i - 16) (by omega)]; congr 1; omega
/-- feed -/
theorem op_8 {F k : Nat} {M : sp_Mem} (hF : 1000 ≤ F) (hI : Inv k M) (w1 w2 w3 w4 w5 : Int32) : ∃ p, gL_8 F M w1 w2 w3 w4 w5 = some p ∧ Inv (k + 1) p := by
  obtain ⟨n, hn, t1, t2, ht⟩ := hI.2.2.2.1
  have hspc : fX8_hasSpace M = if n + 20 ≤ 400 then 1 else 0 := by
    unfold fX8_hasSpace
    rw [t1, show nI n + 20 = nI (n + 20) from nI_add n 20]
    by_cases h : n + 20 ≤ 400
    · rw [if_pos h, if_neg (show ¬ (400 : Int32) < nI (n + 20) from nI_nlt (a := 400) h (by omega))]
    · rw [if_neg h, if_pos (show (400 : Int32) < nI (n + 20) from nI_lt (a := 400) (by omega) (by omega))]
  by_cases h : n + 20 ≤ 400
  · obtain ⟨A1, a1, s1, k1, b1⟩ := ap_e (a1 := w1) hF t1 (by omega)
    obtain ⟨A2, a2, s2, k2, b2⟩ := ap_e (a1 := w2) hF s1 (by omega)
    obtain ⟨A3, a3, s3, k3, b3⟩ := ap_e (a1 := w3) hF s2 (by omega)
    obtain ⟨A4, a4, s4, k4, b4⟩ := ap_e (a1 := w4) hF s3 (by omega)
    obtain ⟨A5, a5, s5, k5, b5⟩ := ap_e (a1 := w5) hF s4 (by omega)
    have e1 : fX10_feed F M w1 w2 w3 w4 w5 = some (nI (n + 4 + 4 + 4 + 4 + 4), A5) := by
      unfold fX10_feed
      rw [hspc, if_pos h, if_neg (by decide), a1, Option.bind_some, a2, Option.bind_some, a3, Option.bind_some, a4, Option.bind_some, a5, Option.bind_some, s5]
    have f1 := frX10_feed e1
    have u0 : sp_I (sp_setI A5 103 0 0) 103 13 = nI n := by
      rw [I_nf _ _ _ (by decide), f1.1 103 13 (by decide) (by decide)]; exact t2
    obtain ⟨B1, c1, p1, l1, d1⟩ := fo_e (a1 := w1) hF u0 (by omega)
    obtain ⟨B2, c2, p2, l2, d2⟩ := fo_e (a1 := w2) hF p1 (by omega)
    obtain ⟨B3, c3, p3, l3, d3⟩ := fo_e (a1 := w3) hF p2 (by omega)
    obtain ⟨B4, c4, p4, l4, d4⟩ := fo_e (a1 := w4) hF p3 (by omega)
    obtain ⟨B5, c5, p5, l5, d5⟩ := fo_e (a1 := w5) hF p4 (by omega)
    have e2 : fX11_feed F A5 w1 w2 w3 w4 w5 = some (nI (n + 4 + 4 + 4 + 4 + 4), B5) := by
      unfold fX11_feed
      simp only [sp_do]
      rw [u0, show nI n + 20 = nI (n + 20) from nI_add n 20, if_pos (show nI (n + 20) ≤ 400 from nI_le (b := 400) h (by omega)), c1, Option.bind_some, c2, Option.bind_some, c3, Option.bind_some, c4, Option.bind_some, c5, Option.bind_some, p5]
    have f2 := frX11_feed e2
    refine ⟨B5, glue (b := fun m => fX11_feed F m w1 w2 w3 w4 w5) e1 e2, ?_⟩
    refine Inv_step (f1.tr2 f2) hI (by decide +kernel) (Or.inl (by decide +kernel)) (Or.inl (by decide +kernel)) (Or.inl (by decide +kernel)) (Or.inr ⟨n + 20, h, ?_, p5, fun i hi => ?_⟩) (Or.inl (by decide +kernel)) (Or.inl (by decide +kernel)) (Or.inl (by decide +kernel)) (by decide +kernel)
    · rw [f2.1 94 1 (by decide) (by decide)]; exact s5
    · have e95 : ∀ j, sp_I B5 95 j = sp_I A5 95 j := fun j => f2.1 95 j (by decide) (by simp)
      have e112 : ∀ j, j < n → sp_I B5 112 j = sp_I M 112 j := by
        intro j hj
        rw [l5 j (by omega), l4 j (by omega), l3 j (by omega), l2 j (by omega), l1 j hj, I_ne _ _ _ (by decide), f1.1 112 j (by decide) (by simp)]
      by_cases hin : i < n
      · rw [e95, k5 i (by omega), k4 i (by omega), k3 i (by omega), k2 i (by omega), k1 i hin, e112 i hin]
        exact ht i hin
      · have x1 := fb5_of (f := sp_I A5 95) b1 k2 b2 k3 b3 k4 b4 k5 b5 (i - n) (by omega)
        have x2 := fb5_of (f := sp_I B5 112) d1 l2 d2 l3 d3 l4 d4 l5 d5 (i - n) (by omega)
        rw [show n + (i - n) = i by omega] at x1 x2
        rw [e95, x1, x2]
        exact ⟨rfl, fb5_wi _ _ _ _ _ _⟩
  · refine ⟨_, ?_, Inv_thrown hI⟩
    have e1 : fX10_feed F M w1 w2 w3 w4 w5 = some (-1, M) := by
      unfold fX10_feed
      rw [hspc, if_neg h, if_pos rfl]
    have e2 : fX11_feed F M w1 w2 w3 w4 w5 = some (-1, sp_setI M 103 0 0) := by
      unfold fX11_feed
      simp only [sp_do]
      rw [I_nf _ _ _ (by decide), t2, show nI n + 20 = nI (n + 20) from nI_add n 20, if_neg (show ¬ nI (n + 20) ≤ 400 from nI_ge (a := 400) (by omega) (by omega))]
    exact glue (b := fun m => fX11_feed F m w1 w2 w3 w4 w5) e1 e2
