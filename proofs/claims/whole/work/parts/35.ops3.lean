/-! ===== terms, spark, person, answer ===== -/
theorem th_hi : ∀ j, j < 4 → (fX10_highestTerm (nI j)).toInt = hi (5 + j) ∧ lo (5 + j) = 0 := by decide +kernel
theorem th_is {j : Nat} (hj : j < 4) (w : Int32) : (fX11_isTerm (nI j) w = 0) = ¬ (0 ≤ w.toInt ∧ w.toInt ≤ hi (5 + j)) := by
  have : j = 0 ∨ j = 1 ∨ j = 2 ∨ j = 3 := by omega
  rcases this with rfl | rfl | rfl | rfl
  · rw [show fX11_isTerm (nI 0) w = fX11_in (Int32.toInt64 w) 0 999 from rfl, m_in, n_l]; rfl
  · rw [show fX11_isTerm (nI 1) w = fX11_in (Int32.toInt64 w) 0 2 from rfl, m_in, n_l]; rfl
  · rw [show fX11_isTerm (nI 2) w = fX11_in (Int32.toInt64 w) 0 9 from rfl, m_in, n_l]; rfl
  · rw [show fX11_isTerm (nI 3) w = fX11_in (Int32.toInt64 w) 0 24 from rfl, m_in, n_l]; rfl
theorem op_7 {F k : Nat} {M : sp_Mem} (hI : Inv k M) (w1 w2 : Int32) : ∃ p, gL_7 F M w1 w2 = some p ∧ Inv (k + 1) p := by
  obtain ⟨hR, hB, hL⟩ := hI.2.1
  unfold gL_7 fX10_terms fX11_terms
  simp only [w_in, show (0 : Int32).toInt = 0 from rfl, show (3 : Int32).toInt = 3 from rfl]
  by_cases h1 : 0 ≤ w1.toInt ∧ w1.toInt ≤ 3
  · obtain ⟨j, hj, rfl⟩ := n_of (n := 4) h1.1 (show w1.toInt < ((4 : Nat) : Int) by omega)
    simp only [th_is hj, (th_hi j hj).1]
    by_cases h2 : 0 ≤ w2.toInt ∧ w2.toInt ≤ hi (5 + j)
    · have i3 := rm_term hR hj
      let M1 := sp_setI (sp_setI (sp_setI M 16 j w2) 18 3 0) 0 12 0
      let M2 := sp_setI (sp_setI (sp_setI (sp_setI M1 103 0 0) 103 8 0) 105 (5 + j) w2) 103 1 0
      refine ⟨M2, ?_, ?_⟩
      · simp only [h1, h2, and_self, not_true, if_false, sp_do, sp_ix_nI (show j < 4 by omega) (by omega), Option.bind_some, fX10_grant, fX3_clear, fX11_change, ixa 5 j 5480 (5 + nI j) (by omega) (by omega) rfl]
        simp [M2, M1, sp_I_setI, i3]
      · have hfr : sp_fr [16, 105] [(18, 3), (0, 12), (103, 0), (103, 8), (103, 1)] M M2 := ((((((sp_fr_I (Or.inl (by decide)) rfl).tr (sp_fr_I (Or.inr (by decide)) rfl)).tr (sp_fr_I (Or.inr (by decide)) rfl)).tr (sp_fr_I (Or.inr (by decide)) rfl)).tr (sp_fr_I (Or.inr (by decide)) rfl)).tr (sp_fr_I (Or.inl (by decide)) rfl)).tr (sp_fr_I (Or.inr (by decide)) rfl)
        refine Inv_grant (r' := up (rM M) (5 + j) w2) hfr hI (by decide +kernel) ?_ ?_ (B_up hB (by omega) (by omega) ?_) (up_n _ _ (by omega)) (fun i h1 h2 => up_n _ _ (by omega)) (U_clear hI ?_ ?_ ?_) ?_
        · funext i; unfold up; simp [rM, M2, M1, sp_I_setI]
        · exact Room_ne (Room_ne (Room_ne (Room_ne (Room_ne (Room_ne (Room_up hR 10 j (5 + j) w2 (fx_term j (by omega))) (by omega)) (by omega)) (by omega)) (by omega)) (by omega)) (by omega)
        · rw [(th_hi j hj).2]; exact h2
        · simp [M2, M1, sp_I_setI]
        · simp [M2, M1, sp_I_setI]
        · simp [M2, M1, sp_I_setI]
        · simp [M2, M1, sp_I_setI]
    · refine ⟨_, ?_, Inv_ref (c := 1) hI⟩
      simp only [h1, h2, and_self, not_true, if_false, not_false_iff, if_true, rf_1, Option.bind_some, sp_do, tl_1]
  · refine ⟨_, ?_, Inv_ref (c := 1) hI⟩
    have c0 : ∀ m : Nat, m < 4 → ¬ w1 = nI m := by
      intro m hm q
      rw [q, nI_toInt (by omega)] at h1
      omega
    have c : fX11_isTerm w1 w2 = 0 := by
      unfold fX11_isTerm
      have k0 : ¬ w1 = 0 := c0 0 (by omega)
      have k1 : ¬ w1 = 1 := c0 1 (by omega)
      have k2 : ¬ w1 = 2 := c0 2 (by omega)
      have k3 : ¬ w1 = 3 := c0 3 (by omega)
      rw [if_neg k0, if_neg k1, if_neg k2, if_neg k3]
    simp only [h1, c, not_false_iff, if_true, rf_1, Option.bind_some, sp_do, tl_1]
theorem B_s {r : Nat → Int32} {n : Nat} (h : i_B r) (hn : n < 6) (h0 : r 0 = nI n) : i_B (up r 0 (nI n + 1)) := by
  obtain ⟨⟨a1, a2, a3, a4, a5⟩, b⟩ := h
  refine ⟨⟨⟨n + 1, by omega, by rw [up_s, nI_1]⟩, ?_, ?_, ?_, ?_⟩, fun i h1 h2 => ?_⟩
  · rw [up_n _ _ (by omega)]; exact a2
  · rw [up_n _ _ (by omega)]; exact a3
  · rw [up_n _ _ (by omega), up_n _ _ (by omega)]; exact a4
  · intro k hk
    rw [up_n _ _ (by omega)] at hk
    rw [up_n _ _ (by omega), up_n _ _ (by omega)]
    exact a5 k hk
  · rw [up_n _ _ (by omega)]; exact b i h1 h2
theorem B_p {r : Nat → Int32} {n : Nat} (h : i_B r) (hn : n < 5) (h0 : r 1 = nI n) : i_B (up r 1 (nI n + 1)) := by
  obtain ⟨⟨a1, a2, a3, a4, a5⟩, b⟩ := h
  refine ⟨⟨?_, ⟨n + 1, by omega, by rw [up_s, nI_1]⟩, ?_, ?_, ?_⟩, fun i h1 h2 => ?_⟩
  · rw [up_n _ _ (by omega)]; exact a1
  · rw [up_n _ _ (by omega)]; exact a3
  · rw [up_n _ _ (by omega), up_n _ _ (by omega)]; exact a4
  · intro k hk
    rw [up_n _ _ (by omega)] at hk
    rw [up_n _ _ (by omega), up_s, nI_1, nI_toInt (by omega)]
    have := a5 k hk
    rw [h0, nI_toInt (by omega)] at this
    omega
  · rw [up_n _ _ (by omega)]; exact b i h1 h2
/-- an answer -/
theorem B_a {r : Nat → Int32} {n : Nat} {v w : Int32} (h : i_B r) (hn : n < 6) (h0 : r 2 = nI n) (hv : wi v 0 ((r 1).toInt - 1)) (hw : wi w 0 1) : i_B (up (up (up r (67 + 2 * n) v) (68 + 2 * n) w) 2 (nI n + 1)) := by
  obtain ⟨⟨a1, ⟨p, hp, ep⟩, a3, a4, a5⟩, b⟩ := h
  refine ⟨⟨?_, ?_, ⟨n + 1, by omega, by rw [up_s, nI_1]⟩, ?_, ?_⟩, fun i h1 h2 => ?_⟩
  · rw [up_n _ _ (by omega), up_n _ _ (by omega), up_n _ _ (by omega)]; exact a1
  · rw [up_n _ _ (by omega), up_n _ _ (by omega), up_n _ _ (by omega)]; exact ⟨p, hp, ep⟩
  · rw [up_n _ _ (by omega), up_n _ _ (by omega), up_n _ _ (by omega), up_n _ _ (by omega), up_n _ _ (by omega), up_n _ _ (by omega)]; exact a4
  · intro k hk
    rw [up_s, nI_1, nI_toInt (by omega)] at hk
    rw [up_n _ _ (by omega), up_n _ _ (by omega), up_n _ _ (show (1 : Nat) ≠ 2 by omega), up_n _ _ (show (1 : Nat) ≠ 68 + 2 * n by omega), up_n _ _ (show (1 : Nat) ≠ 67 + 2 * n by omega)]
    by_cases hq : k = n
    · subst hq; rw [up_s]; have := hv.2; omega
    · rw [up_n _ _ (by omega)]
      exact a5 k (by rw [h0, nI_toInt (by omega)]; omega)
  · rw [up_n _ _ (by omega)]
    by_cases hq : i = 68 + 2 * n
    · subst hq
      rw [up_s]
      have e1 : lo (68 + 2 * n) = 0 := by unfold lo; rw [if_neg (by omega)]
      have e2 : hi (68 + 2 * n) = 1 := by unfold hi; rw [if_neg (by omega), if_neg (by omega), if_neg (by omega), if_neg (by omega), if_neg (by omega), if_neg (by omega), if_neg (by omega), if_neg (by omega), if_neg (by omega), if_neg (by omega), if_pos (by omega)]
      rw [e1, e2]; exact hw
    · rw [up_n _ _ hq]
      by_cases hq : i = 67 + 2 * n
      · subst hq
        rw [up_s]
        have e1 : lo (67 + 2 * n) = 0 := by unfold lo; rw [if_neg (by omega)]
        have e2 : hi (67 + 2 * n) = 4 := by unfold hi; rw [if_neg (by omega), if_neg (by omega), if_neg (by omega), if_neg (by omega), if_neg (by omega), if_neg (by omega), if_neg (by omega), if_neg (by omega), if_neg (by omega), if_neg (by omega), if_neg (by omega)]
        rw [e1, e2]
        have := hv.1
        have := hv.2
        rw [ep, nI_toInt (by omega)] at this
        exact ⟨by omega, by omega⟩
      · rw [up_n _ _ hq]; exact b i h1 h2
/-- spark -/
theorem op_0 {F k : Nat} {M : sp_Mem} (hI : Inv k M) (w1 w2 w3 : Int32) : ∃ p, gL_0 F M w1 w2 w3 = some p ∧ Inv (k + 1) p := by
  obtain ⟨hR, hB, hL⟩ := hI.2.1
  obtain ⟨n, hn, en⟩ := hB.1.1
  have e4 : sp_I M 6 4 = nI n := (rm_s hR).trans en
  have en' : sp_I M 105 0 = nI n := en
  unfold gL_0 fX10_spark fX11_spark
  simp only [w_in, w_cell, m_in, m_cell, n_l, show (1 : Int32).toInt = 1 from rfl, show (9 : Int32).toInt = 9 from rfl, show (0 : Int32).toInt = 0 from rfl, show (99 : Int32).toInt = 99 from rfl, show (1 : Int64).toInt = 1 from rfl, show (9 : Int64).toInt = 9 from rfl, show (0 : Int64).toInt = 0 from rfl, show (99 : Int64).toInt = 99 from rfl]
  by_cases h1 : 0 ≤ w1.toInt ∧ w1.toInt < 25
  · by_cases h2 : 1 ≤ w2.toInt ∧ w2.toInt ≤ 9
    · by_cases h3 : 0 ≤ w3.toInt ∧ w3.toInt ≤ 99
      · obtain ⟨c, hc, rfl⟩ := n_of (n := 25) h1.1 h1.2
        have ek := rm_kind hR hc
        have ek : sp_I M 7 c = sp_I M 105 (26 + c) := ek
        simp only [h1, h2, h3, and_self, not_true, if_false, sp_ix_nI (show c < 25 by omega) (by omega), Option.bind_some, sp_do, ixa 26 c 5480 (26 + nI c) (by omega) (by omega) rfl]
        by_cases hw : sp_I M 105 (26 + c) = 3
        · refine ⟨_, ?_, Inv_ref (c := 3) hI⟩
          have e1 : sp_I (sp_setI (rfM M 3) 103 0 0) 105 (26 + c) = 3 := by
            rw [I_ne _ _ _ (by omega), rf_I _ _ (by omega) (by omega)]; exact hw
          simp only [ek, hw, if_true, rf_3, Option.bind_some, e1, tl_3]
        · by_cases h6 : n = 6
          · refine ⟨_, ?_, Inv_ref (c := 5) hI⟩
            have e1 : ¬ sp_I (sp_setI (rfM M 5) 103 0 0) 105 (26 + c) = 3 := by
              rw [I_ne _ _ _ (by omega), rf_I _ _ (by omega) (by omega)]; exact hw
            have e2 : sp_I (sp_setI (rfM M 5) 103 0 0) 105 0 = 6 := by
              rw [I_ne _ _ _ (by omega), rf_I _ _ (by omega) (by omega), en', h6]; rfl
            have e3 : ¬ nI n < 6 := by rw [h6]; decide
            simp only [ek, hw, if_false, e4, e3, rf_5, Option.bind_some, e1, e2, if_true, tl_5]
          · let M1 := sp_setI (sp_setI (sp_setI (sp_setI (sp_setI (sp_setI M 18 3 0) 8 n (nI c)) 9 n w2) 10 n w3) 6 4 (nI n + 1)) 0 12 0
            let M2 := sp_setI (sp_setI (sp_setI (sp_setI (sp_setI (sp_setI (sp_setI M1 103 0 0) 105 (9 + n) (nI c)) 105 (15 + n) w2) 105 (51 + n) w3) 105 0 (nI n + 1)) 103 8 0) 103 1 0
            have e3 : nI n < 6 := nI_lt (b := 6) (by omega) (by omega)
            have e6 : ¬ nI n = 6 := by
              rw [n_eq, nI_toInt (by omega), show (6 : Int32).toInt = 6 from rfl]; omega
            have z1 : ¬ (0 = 9 + n) := by omega
            have z2 : ¬ (0 = 15 + n) := by omega
            have z3 : ¬ (0 = 51 + n) := by omega
            refine ⟨M2, ?_, ?_⟩
            · simp only [ek, hw, if_false, e4, e3, if_true, fX3_clear, fX5_addSpark, fX10_grant, sp_do, Option.bind_some, sp_I_setI, sp_ix_nI (show n < 6 by omega) (by omega), show ¬ ((6 : Nat) = 18 ∧ (4 : Nat) = 3) by decide, show ¬ ((6 : Nat) = 6 + 2 ∧ (4 : Nat) = n) by omega, show ¬ ((6 : Nat) = 6 + 3 ∧ (4 : Nat) = n) by omega, show ¬ ((6 : Nat) = 6 + 4 ∧ (4 : Nat) = n) by omega]
              simp [en', hw, e6, ixa 9 n 5480 (9 + nI n) (by omega) (by omega) rfl, ixa 15 n 5480 (15 + nI n) (by omega) (by omega) rfl, ixa 51 n 5480 (51 + nI n) (by omega) (by omega) rfl, settled_g _ (nI_pos' (show n < 2 ^ 31 by omega)), sp_I_setI, z1, z2, z3, M2, M1]
            · have hfr : sp_fr [8, 9, 10, 105] [(18, 3), (6, 4), (0, 12), (103, 0), (103, 8), (103, 1)] M M2 := ((((((((((((sp_fr_I (Or.inr (by decide)) rfl).tr (sp_fr_I (Or.inl (by decide)) rfl)).tr (sp_fr_I (Or.inl (by decide)) rfl)).tr (sp_fr_I (Or.inl (by decide)) rfl)).tr (sp_fr_I (Or.inr (by decide)) rfl)).tr (sp_fr_I (Or.inr (by decide)) rfl)).tr (sp_fr_I (Or.inr (by decide)) rfl)).tr (sp_fr_I (Or.inl (by decide)) rfl)).tr (sp_fr_I (Or.inl (by decide)) rfl)).tr (sp_fr_I (Or.inl (by decide)) rfl)).tr (sp_fr_I (Or.inl (by decide)) rfl)).tr (sp_fr_I (Or.inr (by decide)) rfl)).tr (sp_fr_I (Or.inr (by decide)) rfl)
              have hb := B_up (B_up (B_up hB (q := 9 + n) (v := nI c) (by omega) (by omega) (by rw [(bd_cell n (by omega)).1, (bd_cell n (by omega)).2]; exact ⟨by omega, by omega⟩)) (q := 15 + n) (v := w2) (by omega) (by omega) (by rw [(bd_heat n (by omega)).1, (bd_heat n (by omega)).2]; exact ⟨by omega, by omega⟩)) (q := 51 + n) (v := w3) (by omega) (by omega) (by rw [(bd_name n (by omega)).1, (bd_name n (by omega)).2]; exact h3)
              refine Inv_grant (r' := up (up (up (up (rM M) (9 + n) (nI c)) (15 + n) w2) (51 + n) w3) 0 (nI n + 1)) hfr hI (by decide +kernel) ?_ ?_ (B_s hb (by omega) ?_) ?_ (fun i h1 h2 => ?_) (U_clear hI ?_ ?_ ?_) ?_
              · funext i; unfold up; simp [rM, M2, M1, sp_I_setI]
              · refine Room_ne (Room_ne (Room_ne (Room_ne (Room_ne (Room_ne (Room_ne (Room_ne (Room_up (Room_up (Room_up (Room_up (Room_ne hR (by omega)) 2 n (9 + n) (nI c) (fx_cell n (by omega))) 3 n (15 + n) w2 (fx_heat n (by omega))) 4 n (51 + n) w3 (fx_name n (by omega))) 0 4 0 (nI n + 1) fx_s) (by omega)) (by omega)) (by omega)) (by omega)) (by omega)) (by omega)) (by omega)) (by omega)
              · rw [up_n _ _ (by omega), up_n _ _ (by omega), up_n _ _ (by omega)]; exact en
              · rw [up_n _ _ (by omega), up_n _ _ (by omega), up_n _ _ (by omega), up_n _ _ (by omega)]
              · rw [up_n _ _ (by omega), up_n _ _ (by omega), up_n _ _ (by omega), up_n _ _ (by omega)]
              · simp [M2, M1, sp_I_setI]
              · simp [M2, M1, sp_I_setI]
              · simp [M2, M1, sp_I_setI]
              · simp [M2, M1, sp_I_setI]
      · refine ⟨_, ?_, Inv_ref (c := 1) hI⟩
        simp only [h1, h2, h3, and_self, not_true, if_false, not_false_iff, if_true, rf_1, Option.bind_some, sp_do, tl_1]
    · refine ⟨_, ?_, Inv_ref (c := 1) hI⟩
      simp only [h1, h2, and_self, not_true, if_false, not_false_iff, if_true, rf_1, Option.bind_some, sp_do, tl_1]
  · refine ⟨_, ?_, Inv_ref (c := 1) hI⟩
    simp only [h1, not_false_iff, if_true, rf_1, Option.bind_some, sp_do, tl_1]
/-- person -/
theorem op_2 {F k : Nat} {M : sp_Mem} (hI : Inv k M) (w1 w2 : Int32) : ∃ p, gL_2 F M w1 w2 = some p ∧ Inv (k + 1) p := by
  obtain ⟨hR, hB, hL⟩ := hI.2.1
  obtain ⟨n, hn, en⟩ := hB.1.2.1
  have e4 : sp_I M 6 8 = nI n := (rm_p hR).trans en
  have en' : sp_I M 105 1 = nI n := en
  unfold gL_2 fX10_person fX11_person
  simp only [w_in, w_cell, m_in, m_cell, n_l, show (1 : Int32).toInt = 1 from rfl, show (8 : Int32).toInt = 8 from rfl, show (0 : Int32).toInt = 0 from rfl, show (99 : Int32).toInt = 99 from rfl, show (1 : Int64).toInt = 1 from rfl, show (8 : Int64).toInt = 8 from rfl, show (0 : Int64).toInt = 0 from rfl, show (99 : Int64).toInt = 99 from rfl]
  by_cases h1 : 0 ≤ w1.toInt ∧ w1.toInt < 25
  · by_cases h2 : 0 ≤ w2.toInt ∧ w2.toInt ≤ 8
    · · obtain ⟨c, hc, rfl⟩ := n_of (n := 25) h1.1 h1.2
        have ek := rm_kind hR hc
        have ek : sp_I M 7 c = sp_I M 105 (26 + c) := ek
        simp only [h1, h2, and_self, not_true, if_false, sp_ix_nI (show c < 25 by omega) (by omega), Option.bind_some, sp_do, ixa 26 c 5480 (26 + nI c) (by omega) (by omega) rfl]
        by_cases hw : sp_I M 105 (26 + c) = 3
        · refine ⟨_, ?_, Inv_ref (c := 3) hI⟩
          have e1 : sp_I (sp_setI (rfM M 3) 103 0 0) 105 (26 + c) = 3 := by
            rw [I_ne _ _ _ (by omega), rf_I _ _ (by omega) (by omega)]; exact hw
          simp only [ek, hw, if_true, rf_3, Option.bind_some, e1, tl_3]
        · by_cases h6 : n = 5
          · refine ⟨_, ?_, Inv_ref (c := 5) hI⟩
            have e1 : ¬ sp_I (sp_setI (rfM M 5) 103 0 0) 105 (26 + c) = 3 := by
              rw [I_ne _ _ _ (by omega), rf_I _ _ (by omega) (by omega)]; exact hw
            have e2 : sp_I (sp_setI (rfM M 5) 103 0 0) 105 1 = 5 := by
              rw [I_ne _ _ _ (by omega), rf_I _ _ (by omega) (by omega), en', h6]; rfl
            have e3 : ¬ nI n < 5 := by rw [h6]; decide
            simp only [ek, hw, if_false, e4, e3, rf_5, Option.bind_some, e1, e2, if_true, tl_5]
          · let M1 := sp_setI (sp_setI (sp_setI (sp_setI (sp_setI (sp_setI M 18 3 0) 11 n (nI c)) 12 n w2) 13 n 0) 6 8 (nI n + 1)) 0 12 0
            let M2 := sp_setI (sp_setI (sp_setI (sp_setI (sp_setI (sp_setI (sp_setI M1 103 0 0) 105 (21 + n) (nI c)) 105 (57 + n) w2) 105 (62 + n) 0) 105 1 (nI n + 1)) 103 8 0) 103 1 0
            have e3 : nI n < 5 := nI_lt (b := 5) (by omega) (by omega)
            have e6 : ¬ nI n = 5 := by
              rw [n_eq, nI_toInt (by omega), show (5 : Int32).toInt = 5 from rfl]; omega
            have z1 : ¬ (1 = 21 + n) := by omega
            have z2 : ¬ (1 = 57 + n) := by omega
            have z3 : ¬ (1 = 62 + n) := by omega
            refine ⟨M2, ?_, ?_⟩
            · simp only [ek, hw, if_false, e4, e3, if_true, fX3_clear, fX5_addPerson, fX10_grant, sp_do, Option.bind_some, sp_I_setI, sp_ix_nI (show n < 5 by omega) (by omega), show ¬ ((6 : Nat) = 18 ∧ (8 : Nat) = 3) by decide, show ¬ ((6 : Nat) = 6 + 5 ∧ (8 : Nat) = n) by omega, show ¬ ((6 : Nat) = 6 + 6 ∧ (8 : Nat) = n) by omega, show ¬ ((6 : Nat) = 6 + 7 ∧ (8 : Nat) = n) by omega]
              simp [en', hw, e6, ixa 21 n 5480 (21 + nI n) (by omega) (by omega) rfl, ixa 57 n 5480 (57 + nI n) (by omega) (by omega) rfl, ixa 62 n 5480 (62 + nI n) (by omega) (by omega) rfl, settled_g _ (nI_pos' (show n < 2 ^ 31 by omega)), sp_I_setI, z1, z2, z3, M2, M1]
            · have hfr : sp_fr [11, 12, 13, 105] [(18, 3), (6, 8), (0, 12), (103, 0), (103, 8), (103, 1)] M M2 := ((((((((((((sp_fr_I (Or.inr (by decide)) rfl).tr (sp_fr_I (Or.inl (by decide)) rfl)).tr (sp_fr_I (Or.inl (by decide)) rfl)).tr (sp_fr_I (Or.inl (by decide)) rfl)).tr (sp_fr_I (Or.inr (by decide)) rfl)).tr (sp_fr_I (Or.inr (by decide)) rfl)).tr (sp_fr_I (Or.inr (by decide)) rfl)).tr (sp_fr_I (Or.inl (by decide)) rfl)).tr (sp_fr_I (Or.inl (by decide)) rfl)).tr (sp_fr_I (Or.inl (by decide)) rfl)).tr (sp_fr_I (Or.inl (by decide)) rfl)).tr (sp_fr_I (Or.inr (by decide)) rfl)).tr (sp_fr_I (Or.inr (by decide)) rfl)
              have hb := B_up (B_up (B_up hB (q := 21 + n) (v := nI c) (by omega) (by omega) (by rw [(bd_stand n (by omega)).1, (bd_stand n (by omega)).2]; exact ⟨by omega, by omega⟩)) (q := 57 + n) (v := w2) (by omega) (by omega) (by rw [(bd_reach n (by omega)).1, (bd_reach n (by omega)).2]; exact ⟨by omega, by omega⟩)) (q := 62 + n) (v := 0) (by omega) (by omega) (by rw [(bd_know n (by omega)).1, (bd_know n (by omega)).2]; exact ⟨by decide, by decide⟩)
              refine Inv_grant (r' := up (up (up (up (rM M) (21 + n) (nI c)) (57 + n) w2) (62 + n) 0) 1 (nI n + 1)) hfr hI (by decide +kernel) ?_ ?_ (B_p hb (by omega) ?_) ?_ (fun i h1 h2 => ?_) (U_clear hI ?_ ?_ ?_) ?_
              · funext i; unfold up; simp [rM, M2, M1, sp_I_setI]
              · refine Room_ne (Room_ne (Room_ne (Room_ne (Room_ne (Room_ne (Room_ne (Room_ne (Room_up (Room_up (Room_up (Room_up (Room_ne hR (by omega)) 5 n (21 + n) (nI c) (fx_stand n (by omega))) 6 n (57 + n) w2 (fx_reach n (by omega))) 7 n (62 + n) 0 (fx_know n (by omega))) 0 8 1 (nI n + 1) fx_p) (by omega)) (by omega)) (by omega)) (by omega)) (by omega)) (by omega)) (by omega)) (by omega)
              · rw [up_n _ _ (by omega), up_n _ _ (by omega), up_n _ _ (by omega)]; exact en
              · rw [up_n _ _ (by omega), up_n _ _ (by omega), up_n _ _ (by omega), up_n _ _ (by omega)]
              · rw [up_n _ _ (by omega), up_n _ _ (by omega), up_n _ _ (by omega), up_n _ _ (by omega)]
              · simp [M2, M1, sp_I_setI]
              · simp [M2, M1, sp_I_setI]
              · simp [M2, M1, sp_I_setI]
              · simp [M2, M1, sp_I_setI]
    · refine ⟨_, ?_, Inv_ref (c := 1) hI⟩
      simp only [h1, h2, and_self, not_true, if_false, not_false_iff, if_true, rf_1, Option.bind_some, sp_do, tl_1]
  · refine ⟨_, ?_, Inv_ref (c := 1) hI⟩
    simp only [h1, not_false_iff, if_true, rf_1, Option.bind_some, sp_do, tl_1]
