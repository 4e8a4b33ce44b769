/-! ===== refused and granted ===== -/
def rfM (M : sp_Mem) (c : Nat) : sp_Mem := sp_setI (sp_setI M 0 12 (-(nI c))) 102 c (sp_I M 102 c + 1)
def tlM (M : sp_Mem) (c : Nat) : sp_Mem := sp_setI (sp_setI M 103 1 (-(nI c))) 104 c (sp_I M 104 c + 1)
theorem neg_nI {c : Nat} (h1 : 1 ≤ c) (h6 : c ≤ 6) : -(-(nI c)) = nI c ∧ (-(nI c)).toInt = -(c : Int) := by
  have : c = 1 ∨ c = 2 ∨ c = 3 ∨ c = 4 ∨ c = 5 ∨ c = 6 := by omega
  rcases this with rfl | rfl | rfl | rfl | rfl | rfl <;> decide
theorem refuse_e (M : sp_Mem) {c : Nat} (h1 : 1 ≤ c) (h6 : c ≤ 6) : fX10_refuse M (-(nI c)) = some (-(nI c), rfM M c) := by
  obtain ⟨e1, e2⟩ := neg_nI h1 h6
  unfold fX10_refuse
  simp only [sp_do, e1, w_in, nI_toInt (show c < 2 ^ 31 by omega), sp_ix_nI (show c < 7 by omega) (by omega), Option.bind_some]
  rw [if_neg]
  · simp [rfM, sp_I_setI]
  · simp; omega
theorem tell_e (M : sp_Mem) {c : Nat} (h1 : 1 ≤ c) (h6 : c ≤ 6) : fX11_tell M (-(nI c)) = some (-(nI c), tlM M c) := by
  obtain ⟨e1, e2⟩ := neg_nI h1 h6
  have h0 : ¬ (0 : Int32) ≤ -(nI c) := by rw [n_le, e2, show (0 : Int32).toInt = 0 from rfl]; omega
  unfold fX11_tell fX11_tell_j10
  simp only [sp_do, e1, h0, if_false, sp_ix_nI (show c < 7 by omega) (by omega), Option.bind_some]
  simp [tlM, sp_I_setI]
theorem tell_g (M : sp_Mem) {v : Int32} (h : 0 ≤ v) : fX11_tell M v = some (v, sp_setI M 103 1 0) := by
  unfold fX11_tell fX11_tell_j10
  simp [sp_do, h]
theorem settled_g (M : sp_Mem) {v : Int32} (h : 0 ≤ v) : fX11_settled M v = some (v, sp_setI (sp_setI M 103 8 0) 103 1 0) := by
  unfold fX11_settled
  simp [sp_do, h, tell_g]
theorem ref_fr (M : sp_Mem) (c : Nat) : sp_fr [102, 104] [(0, 12), (103, 0), (103, 1)] M (tlM (sp_setI (rfM M c) 103 0 0) c) :=
  ((((sp_fr_I (Or.inr (by decide)) rfl).tr (sp_fr_I (Or.inl (by decide)) rfl)).tr (sp_fr_I (Or.inr (by decide)) rfl)).tr (sp_fr_I (Or.inr (by decide)) rfl)).tr (sp_fr_I (Or.inl (by decide)) rfl)
theorem Inv_ref {k c : Nat} {M : sp_Mem} (hI : Inv k M) : Inv (k + 1) (tlM (sp_setI (rfM M c) 103 0 0) c) := by
  have hM := hI.2.2.2.2.1
  refine Inv_step (ref_fr M c) hI (by decide +kernel) (Or.inl (by decide +kernel)) (Or.inl (by decide +kernel)) (Or.inl (by decide +kernel)) (Or.inl (by decide +kernel)) (Or.inr ?_) (Or.inl (by decide +kernel)) (Or.inl (by decide +kernel)) (by decide +kernel)
  obtain ⟨a1, a2, a3, a4, a5, a6⟩ := hM
  refine ⟨fun i hi => ?_, ?_, ?_, ?_, ?_, ?_⟩
  · have := a1 i hi
    by_cases hc : i = c
    · subst hc; simp [tlM, rfM, sp_I_setI, this]
    · simp [tlM, rfM, sp_I_setI, this, hc]
  · simp [tlM, rfM, sp_I_setI]
  · simp [tlM, rfM, sp_I_setI, a3]
  · simp [tlM, rfM, sp_I_setI, a4]
  · simp [tlM, rfM, sp_I_setI, a5]
  · simp [tlM, rfM, sp_I_setI, a6]
section Rf
variable (M : sp_Mem)
theorem rf_1 : fX10_refuse M (-1) = some (-1, rfM M 1) := refuse_e (c := 1) M (by decide) (by decide)
theorem rf_2 : fX10_refuse M (-2) = some (-2, rfM M 2) := refuse_e (c := 2) M (by decide) (by decide)
theorem rf_3 : fX10_refuse M (-3) = some (-3, rfM M 3) := refuse_e (c := 3) M (by decide) (by decide)
theorem rf_5 : fX10_refuse M (-5) = some (-5, rfM M 5) := refuse_e (c := 5) M (by decide) (by decide)
theorem rf_6 : fX10_refuse M (-6) = some (-6, rfM M 6) := refuse_e (c := 6) M (by decide) (by decide)
theorem tl_1 : fX11_tell M (-1) = some (-1, tlM M 1) := tell_e (c := 1) M (by decide) (by decide)
theorem tl_2 : fX11_tell M (-2) = some (-2, tlM M 2) := tell_e (c := 2) M (by decide) (by decide)
theorem tl_3 : fX11_tell M (-3) = some (-3, tlM M 3) := tell_e (c := 3) M (by decide) (by decide)
theorem tl_5 : fX11_tell M (-5) = some (-5, tlM M 5) := tell_e (c := 5) M (by decide) (by decide)
theorem tl_6 : fX11_tell M (-6) = some (-6, tlM M 6) := tell_e (c := 6) M (by decide) (by decide)
theorem rf_I (c : Nat) {o : Nat} (h0 : o ≠ 0) (h1 : o ≠ 102) : sp_I (rfM M c) o = sp_I M o := by
  unfold rfM; rw [I_ne _ _ _ h1, I_ne _ _ _ h0]
end Rf
/-- a granted call that changes the row at one place and keeps what can be undone -/
theorem i_M_grant {M M' : sp_Mem} (hM : i_M M) (h1 : sp_I M' 102 = sp_I M 102) (h2 : sp_I M' 104 = sp_I M 104) (h3 : sp_I M' 0 12 = 0) (h4 : sp_I M' 103 1 = 0) (h5 : ∀ j, j = 13 ∨ j = 14 ∨ j = 15 → sp_I M' 0 j = sp_I M 0 j) (h6 : ∀ j, j = 11 ∨ j = 18 ∨ j = 50 ∨ j = 20 → sp_I M' 103 j = sp_I M 103 j) : i_M M' := by
  obtain ⟨a1, a2, a3, a4, a5, a6⟩ := hM
  refine ⟨fun i hi => by rw [h1, h2]; exact a1 i hi, by rw [h3, h4], ?_, ?_, ?_, ?_⟩
  · rw [h5 13 (by simp), h6 11 (by simp)]; exact a3
  · rw [h5 14 (by simp), h6 18 (by simp)]; exact a4
  · rw [h5 15 (by simp), h6 50 (by simp)]; exact a5
  · rw [h6 20 (by simp)]; exact a6
theorem r3_le {r : Nat → Int32} (h : i_B r) : (r 3).toInt ≤ 6 := by
  obtain ⟨n, hn, h3, _⟩ := h.1.2.2.2.1
  rw [h3, nI_toInt (by omega)]; omega
/-- knows -/
theorem op_4 {F k : Nat} {M : sp_Mem} (hI : Inv k M) (w1 w2 : Int32) : ∃ p, gL_4 F M w1 w2 = some p ∧ Inv (k + 1) p := by
  obtain ⟨hR, hB, hL⟩ := hI.2.1
  obtain ⟨n, hn, en⟩ := hB.1.2.1
  have e8 : sp_I M 6 8 = nI n := (rm_p hR).trans en
  unfold gL_4 fX10_knows fX11_knows
  simp only [w_in, m_in, n_l, has_p (show n < 100 by omega) e8, show (0 : Int32).toInt = 0 from rfl, show (63 : Int32).toInt = 63 from rfl, show (0 : Int64).toInt = 0 from rfl, show (63 : Int64).toInt = 63 from rfl]
  by_cases h2 : 0 ≤ w2.toInt ∧ w2.toInt ≤ 63
  · by_cases h1 : 0 ≤ w1.toInt ∧ w1.toInt < n
    · obtain ⟨j, hj, rfl⟩ := n_of h1.1 h1.2
      have i3 := rm_know hR (show j < 5 by omega)
      let M1 := sp_setI (sp_setI M 13 j w2) 0 12 0
      let M2 := sp_setI (sp_setI (sp_setI M1 103 0 0) 105 (62 + j) w2) 103 1 0
      have e1 : sp_I (sp_setI (sp_setI (sp_setI M 13 j w2) 0 12 0) 103 0 0) 105 1 = nI n := by simpa [sp_I_setI] using en
      refine ⟨M2, ?_, ?_⟩
      · simp only [h1, h2, and_self, not_true, if_false, sp_do, sp_ix_nI (show j < 5 by omega) (by omega), Option.bind_some, fX10_grant]
        simp only [is_p (show n < 100 by omega) e1, h1, and_self, if_true, Option.bind_some, fX11_change, ixa 62 j 5480 (62 + nI j) (by omega) (by omega) rfl, sp_do]
        simp [M2, M1, sp_I_setI, i3]
      · have hfr : sp_fr [13, 105] [(0, 12), (103, 0), (103, 1)] M M2 := ((((sp_fr_I (Or.inl (by decide)) rfl).tr (sp_fr_I (Or.inr (by decide)) rfl)).tr (sp_fr_I (Or.inr (by decide)) rfl)).tr (sp_fr_I (Or.inl (by decide)) rfl)).tr (sp_fr_I (Or.inr (by decide)) rfl)
        have er : rM M2 = up (rM M) (62 + j) w2 := by
          funext i; unfold up; simp [rM, M2, M1, sp_I_setI]
        refine Inv_step hfr hI (by decide +kernel) (Or.inl (by decide +kernel)) (Or.inr ?_) (Or.inr ?_) (Or.inl (by decide +kernel)) (Or.inr ?_) (Or.inl (by decide +kernel)) (Or.inl (by decide +kernel)) (by decide +kernel)
        · unfold i_R
          rw [er]
          refine ⟨Room_ne (Room_ne (Room_ne (Room_ne (Room_up hR 7 j (62 + j) w2 (fx_know j (by omega))) (by omega)) (by omega)) (by omega)) (by omega), B_up hB (by omega) (by omega) ?_, i_Law_fr hfr (by decide +kernel) (fun _ _ => rfl) (up_n _ _ (by omega)) (fun i h1 h2 => up_n _ _ (by omega)) (r3_le hB) hL⟩
          have := bd_know j (by omega)
          rw [this.1, this.2]; exact h2
        · rw [er]
          exact i_U_fr hfr (by decide +kernel) (fun k h1 h2 => up_n _ _ (by omega)) hI.2.2.1
        · refine i_M_grant hI.2.2.2.2.1 ?_ ?_ ?_ ?_ ?_ ?_
          · funext i; simp [M2, M1, sp_I_setI]
          · funext i; simp [M2, M1, sp_I_setI]
          · simp [M2, M1, sp_I_setI]
          · simp [M2, M1, sp_I_setI]
          · intro j hj; rcases hj with rfl | rfl | rfl <;> simp [M2, M1, sp_I_setI]
          · intro j hj; rcases hj with rfl | rfl | rfl | rfl <;> simp [M2, M1, sp_I_setI]
    · refine ⟨_, ?_, Inv_ref (c := 2) hI⟩
      have e1 : sp_I (sp_setI (rfM M 2) 103 0 0) 105 1 = nI n := by
        rw [I_ne _ _ _ (by omega), rf_I _ _ (by omega) (by omega)]; exact en
      simp only [h1, h2, and_self, not_true, not_false_iff, if_false, if_true, rf_2, Option.bind_some, sp_do, is_p (show n < 100 by omega) e1, tl_2]
  · refine ⟨_, ?_, Inv_ref (c := 1) hI⟩
    simp only [h2, not_false_iff, if_true, rf_1, Option.bind_some, sp_do, tl_1]
/-! ===== granted calls ===== -/
def djG (A : List Nat) (B : List (Nat × Nat)) : Bool := okA A B && (dj [17, 34, 50, 63, 75, 89] (wsB ++ [(77, 2), (77, 3)]) A B && (dj [95, 112] [(94, 1), (103, 13)] A B && (dj [102, 104] [(0, 13), (0, 14), (0, 15), (103, 11), (103, 18), (103, 50), (103, 20)] A B && (dj [76, 106, 107, 53, 54, 55, 56, 57, 58, 59, 60, 61, 62, 63, 65, 66, 67, 68, 69, 70, 71, 72, 73, 74, 75] [(52, 4), (52, 8), (52, 11), (52, 14), (52, 15), (64, 4), (64, 8), (64, 11), (64, 14), (64, 15)] A B && (dj [41, 42, 44, 131] [(0, 11), (39, 4), (39, 8), (103, 54), (103, 55)] A B && dj [118, 119, 120, 129] [(77, 2), (77, 3)] A B)))))
theorem Inv_grant {A : List Nat} {B : List (Nat × Nat)} {M M2 : sp_Mem} {k : Nat} {r' : Nat → Int32} (hfr : sp_fr A B M M2) (hI : Inv k M) (hd : djG A B = true) (er : rM M2 = r') (hroom : i_Room M2 6 r') (hB : i_B r') (h3 : r' 3 = rM M 3) (hr : ∀ i, 80 ≤ i → i < 5480 → r' i = rM M i) (hU : i_U M2 r') (hs : sp_I M2 0 12 = sp_I M2 103 1) : Inv (k + 1) M2 := by
  unfold djG at hd
  simp only [Bool.and_eq_true] at hd
  obtain ⟨d1, d2, d3, d4, d5, d6, d7⟩ := hd
  have hL := hI.2.1.2.2
  refine Inv_step hfr hI d1 (Or.inl d2) (Or.inr ⟨by rw [er]; exact hroom, by rw [er]; exact hB, ?_⟩) (Or.inr (by rw [er]; exact hU)) (Or.inl d3) (Or.inr ?_) (Or.inl d5) (Or.inl d6) d7
  · rw [er]
    exact i_Law_fr hfr d1 (fun j _ => by rw [fr_P hfr d2 17 (by decide)]) h3 hr (r3_le hI.2.1.2.1) hL
  · obtain ⟨a1, a2, a3, a4, a5, a6⟩ := hI.2.2.2.2.1
    refine ⟨fun i hi => by rw [fr_A hfr d4 102 (by decide), fr_A hfr d4 104 (by decide)]; exact a1 i hi, hs, ?_, ?_, ?_, ?_⟩
    · rw [fr_B hfr d4 0 13 (by decide), fr_B hfr d4 103 11 (by decide)]; exact a3
    · rw [fr_B hfr d4 0 14 (by decide), fr_B hfr d4 103 18 (by decide)]; exact a4
    · rw [fr_B hfr d4 0 15 (by decide), fr_B hfr d4 103 50 (by decide)]; exact a5
    · rw [fr_B hfr d4 103 20 (by decide)]; exact a6
theorem U_clear {M M2 : sp_Mem} {k : Nat} {r' : Nat → Int32} (hI : Inv k M) (h1 : sp_I M2 18 3 = 0) (h2 : sp_I M2 103 8 = 0) (h3 : sp_I M2 18 2 = sp_I M 18 2) : i_U M2 r' := by
  obtain ⟨u, w, _, g2, _, _, g5, _⟩ := hI.2.2.1
  exact i_U_0 g2 h1 h2 (h3.trans g5)
/-- force -/
theorem op_16 {F k : Nat} {M : sp_Mem} (hI : Inv k M) (w1 : Int32) : ∃ p, gL_16 F M w1 = some p ∧ Inv (k + 1) p := by
  obtain ⟨hR, hB, hL⟩ := hI.2.1
  obtain ⟨n, hn, en, hf⟩ := hB.1.2.2.2.1
  have e8 : sp_I M 6 14 = nI n := (rm_l hR).trans en
  have ef : sp_I M 6 15 = sp_I M 105 4 := rm_f hR
  unfold gL_16 fX10_force fX11_force fX11_isLaw fX10_force_j23
  simp only [has_l (show n < 100 by omega) e8]
  by_cases h : w1 = -1 ∨ (0 ≤ w1.toInt ∧ w1.toInt < n)
  · let M1 := sp_setI (sp_setI M 6 15 w1) 0 12 0
    let M2 := sp_setI (sp_setI (sp_setI M1 103 0 0) 105 4 w1) 103 1 0
    have e1 : sp_I (sp_setI M1 103 0 0) 105 3 = nI n := by simpa [M1, sp_I_setI] using en
    refine ⟨M2, ?_, ?_⟩
    · have q := in_n (show n < 100 by omega) _ e1 w1
      simp only [sp_do, fX10_grant, Option.bind_some]
      by_cases h1 : w1 = -1
      · subst h1
        simp only [if_true, Option.bind_some, fX11_change, sp_do, show sp_ix 5480 4 = some 4 from rfl]
        simp [M2, M1, sp_I_setI, ef]
      · have h2 : 0 ≤ w1.toInt ∧ w1.toInt < n := h.resolve_left h1
        simp only [h1, if_false, h2, and_self, not_true, Option.bind_some]
        have q2 : (fX11_in (Int32.toInt64 w1) 0 ((Int32.toInt64 (sp_I (sp_setI (sp_setI (sp_setI M 6 15 w1) 0 12 0) 103 0 0) 105 3)) - 1) = 0) = False := by
          rw [q]; simp [h2]
        simp only [q2, if_false, Option.bind_some, fX11_change, sp_do, show sp_ix 5480 4 = some 4 from rfl]
        simp [M2, M1, sp_I_setI, ef]
    · have hfr : sp_fr [105] [(6, 15), (0, 12), (103, 0), (103, 1)] M M2 := ((((sp_fr_I (Or.inr (by decide)) rfl).tr (sp_fr_I (Or.inr (by decide)) rfl)).tr (sp_fr_I (Or.inr (by decide)) rfl)).tr (sp_fr_I (Or.inl (by decide)) rfl)).tr (sp_fr_I (Or.inr (by decide)) rfl)
      refine Inv_grant (r' := up (rM M) 4 w1) hfr hI (by decide +kernel) ?_ ?_ ?_ (up_n _ _ (by omega)) (fun i h1 h2 => up_n _ _ (by omega)) (i_U_fr hfr (by decide +kernel) (fun k h1 h2 => up_n _ _ (by omega)) hI.2.2.1) ?_
      · funext i; unfold up; simp [rM, M2, M1, sp_I_setI]
      · exact Room_ne (Room_ne (Room_ne (Room_ne (Room_up hR 0 15 4 w1 fx_f) (by omega)) (by omega)) (by omega)) (by omega)
      · obtain ⟨⟨a1, a2, a3, a4, a5⟩, b⟩ := hB
        refine ⟨⟨?_, ?_, ?_, ⟨n, hn, ?_, ?_⟩, ?_⟩, fun i h1 h2 => ?_⟩
        · rw [up_n _ _ (by omega)]; exact a1
        · rw [up_n _ _ (by omega)]; exact a2
        · rw [up_n _ _ (by omega)]; exact a3
        · rw [up_n _ _ (by omega)]; exact en
        · rw [up_s]
          rcases h with rfl | h
          · exact ⟨by decide, by have : (-1 : Int32).toInt = -1 := rfl
                                 omega⟩
          · exact ⟨by omega, by omega⟩
        · intro k hk
          rw [up_n _ _ (by omega)] at hk
          rw [up_n _ _ (by omega), up_n _ _ (by omega)]
          exact a5 k hk
        · rw [up_n _ _ (by omega)]; exact b i h1 h2
      · simp [M2, M1, sp_I_setI]
  · have h1 : ¬ w1 = -1 := fun q => h (Or.inl q)
    have h2 : ¬ (0 ≤ w1.toInt ∧ w1.toInt < n) := fun q => h (Or.inr q)
    refine ⟨_, ?_, Inv_ref (c := 2) hI⟩
    have e1 : sp_I (sp_setI (rfM M 2) 103 0 0) 105 3 = nI n := by
      rw [I_ne _ _ _ (by omega), rf_I _ _ (by omega) (by omega)]; exact en
    have q := in_n (show n < 100 by omega) _ e1 w1
    simp only [h1, h2, not_false_iff, if_false, if_true, rf_2, Option.bind_some, sp_do, q, tl_2]
/-- forget -/
theorem op_26 {F k : Nat} {M : sp_Mem} (hI : Inv k M) : ∃ p, gL_26 F M = some p ∧ Inv (k + 1) p := by
  obtain ⟨hR, hB, hL⟩ := hI.2.1
  have ea : sp_I M 6 11 = sp_I M 105 2 := rm_a hR
  let M1 := sp_setI M 6 11 0
  let M2 := sp_setI (sp_setI M1 103 0 0) 105 2 0
  refine ⟨M2, ?_, ?_⟩
  · unfold gL_26 fX10_forget fX11_forget
    simp [sp_do, M2, M1, sp_I_setI, ea]
  · have hfr : sp_fr [105] [(6, 11), (103, 0)] M M2 := ((sp_fr_I (Or.inr (by decide)) rfl).tr (sp_fr_I (Or.inr (by decide)) rfl)).tr (sp_fr_I (Or.inl (by decide)) rfl)
    refine Inv_grant (r' := up (rM M) 2 0) hfr hI (by decide +kernel) ?_ ?_ ?_ (up_n _ _ (by omega)) (fun i h1 h2 => up_n _ _ (by omega)) (i_U_fr hfr (by decide +kernel) (fun k h1 h2 => up_n _ _ (by omega)) hI.2.2.1) ?_
    · funext i; unfold up; simp [rM, M2, M1, sp_I_setI]
    · exact Room_ne (Room_ne (Room_up hR 0 11 2 0 fx_a) (by omega)) (by omega)
    · obtain ⟨⟨a1, a2, a3, a4, a5⟩, b⟩ := hB
      refine ⟨⟨?_, ?_, ⟨0, by omega, up_s _ _ _⟩, ?_, ?_⟩, fun i h1 h2 => ?_⟩
      · rw [up_n _ _ (by omega)]; exact a1
      · rw [up_n _ _ (by omega)]; exact a2
      · rw [up_n _ _ (by omega), up_n _ _ (by omega)]; exact a4
      · intro k hk
        rw [up_s] at hk
        have : (0 : Int32).toInt = 0 := rfl
        omega
      · rw [up_n _ _ (by omega)]; exact b i h1 h2
    · have := hI.2.2.2.2.1.2.1
      simp [M2, M1, sp_I_setI, this]
/-- end -/
theorem op_9 {F k : Nat} {M : sp_Mem} (hI : Inv k M) (w1 : Int32) : ∃ p, gL_9 F M w1 = some p ∧ Inv (k + 1) p := by
  obtain ⟨n, hn, e1, e2, ht⟩ := hI.2.2.2.1
  unfold gL_9 fX10_end fX11_end
  simp only [w_in, e1, nI_toInt (show n < 2 ^ 31 by omega), show (0 : Int32).toInt = 0 from rfl]
  by_cases h : 0 ≤ w1.toInt ∧ w1.toInt ≤ n
  · obtain ⟨j, hj, rfl⟩ := n_of h.1 (show w1.toInt < ((n + 1 : Nat) : Int) by omega)
    let M2 := sp_setI (sp_setI (sp_setI M 94 1 (nI j)) 103 0 0) 103 13 (nI j)
    refine ⟨M2, ?_, ?_⟩
    · simp only [h, and_self, not_true, if_false, sp_do, Option.bind_some]
      have c1 : ¬ nI j < 0 := nI_pos (by omega)
      have c2 : nI j ≤ sp_I (sp_setI (sp_setI M 94 1 (nI j)) 103 0 0) 103 13 := by
        simp only [sp_I_setI]
        simp [e2]
        exact nI_le (by omega) (by omega)
      rw [if_neg c1, if_pos c2]
      simp [M2]
    · have hfr : sp_fr [] [(94, 1), (103, 0), (103, 13)] M M2 := ((sp_fr_I (Or.inr (by decide)) rfl).tr (sp_fr_I (Or.inr (by decide)) rfl)).tr (sp_fr_I (Or.inr (by decide)) rfl)
      refine Inv_step hfr hI (by decide +kernel) (Or.inl (by decide +kernel)) (Or.inl (by decide +kernel)) (Or.inl (by decide +kernel)) (Or.inr ⟨j, by omega, ?_, ?_, fun i hi => ?_⟩) (Or.inl (by decide +kernel)) (Or.inl (by decide +kernel)) (Or.inl (by decide +kernel)) (by decide +kernel)
      · simp [M2, sp_I_setI]
      · simp [M2, sp_I_setI]
      · have := ht i (by omega)
        simp only [M2, I_ne _ _ _ (show (95 : Nat) ≠ 103 by omega), I_ne _ _ _ (show (95 : Nat) ≠ 94 by omega), I_ne _ _ _ (show (112 : Nat) ≠ 103 by omega), I_ne _ _ _ (show (112 : Nat) ≠ 94 by omega)]
        exact this
  · refine ⟨_, ?_, Inv_thrown hI⟩
    simp only [h, not_false_iff, if_true, sp_do, Option.bind_some]
    by_cases c1 : w1 < 0
    · simp [c1]
    · rw [if_neg c1, if_neg]
      · simp
      · simp only [sp_I_setI]
        simp [e2]
        rw [n_lt, nI_toInt (by omega)]
        rw [n_lt, show (0 : Int32).toInt = 0 from rfl] at c1
        omega
/-- drawn -/
theorem op_37 {F k : Nat} {M : sp_Mem} (hI : Inv k M) (w1 w2 : Int32) : ∃ p, gL_37 F M w1 w2 = some p ∧ Inv (k + 1) p := by
  refine ⟨_, ?_, Inv_thrown hI⟩
  have hm : ∀ (x : Int32) (n : Nat), n < 100 → x = nI n → (fX11_in (Int32.toInt64 w1) 0 ((Int32.toInt64 x) - 1) = 0) = ¬ (0 ≤ w1.toInt ∧ w1.toInt < n) := fun x n hn hx => in_n hn x hx w1
  unfold gL_37 fX10_drawn fX11_drawn fX11_drawn_j36 fX11_drawn_j69
  simp only [m_in, n_l, show (0 : Int64).toInt = 0 from rfl, show (2 : Int64).toInt = 2 from rfl, sp_do]
  rcases hI.2.2.2.2.2.2.1 with ⟨h0, h1, h2⟩ | ⟨h0, h1, h2, ⟨s, hs, es⟩, ⟨p, hp, ep⟩, h5, h6⟩
  · have e54 : sp_I (sp_setI M 103 0 0) 103 54 = -1 := by simpa [sp_I_setI] using h1
    have e55 : sp_I (sp_setI M 103 0 0) 103 55 = -1 := by simpa [sp_I_setI] using h2
    have q : ((Int32.toInt64 (-1 : Int32)) - 1).toInt = -2 := by decide
    simp only [h0, e54, e55, q, if_true, Option.bind_some]
    by_cases c1 : 0 ≤ w2.toInt ∧ w2.toInt ≤ 2
    · have c3 : ¬ (0 ≤ w1.toInt ∧ w1.toInt ≤ -2) := by omega
      simp [c1, c3]
    · simp [c1]
  · have e54 : sp_I (sp_setI M 103 0 0) 103 54 = nI s := by simpa [sp_I_setI] using es
    have e55 : sp_I (sp_setI M 103 0 0) 103 55 = nI p := by simpa [sp_I_setI] using ep
    have q54 : ((Int32.toInt64 (nI s)) - 1).toInt = (s : Int) - 1 := by
      rw [l_sub, n_l, nI_toInt (by omega)]
      · rfl
      · rw [n_l, nI_toInt (by omega), show (1 : Int64).toInt = 1 from rfl]; omega
      · rw [n_l, nI_toInt (by omega), show (1 : Int64).toInt = 1 from rfl]; omega
    have q55 : ((Int32.toInt64 (nI p)) - 1).toInt = (p : Int) - 1 := by
      rw [l_sub, n_l, nI_toInt (by omega)]
      · rfl
      · rw [n_l, nI_toInt (by omega), show (1 : Int64).toInt = 1 from rfl]; omega
      · rw [n_l, nI_toInt (by omega), show (1 : Int64).toInt = 1 from rfl]; omega
    have c0 : ¬ sp_I M 0 11 = 0 := by rw [h0]; decide
    simp only [c0, if_false, e54, e55, q54, q55, has_s (show s < 100 by omega) (h1.trans es), has_p (show p < 100 by omega) (h2.trans ep)]
    by_cases a0 : w2 = 0
    · subst a0
      have d1 : (0 ≤ (0 : Int32).toInt ∧ (0 : Int32).toInt ≤ 2) := by decide
      have d2 : ¬ (2 : Int32) ≤ 0 := by decide
      simp only [d1, d2, and_self, not_true, if_false, if_true]
      by_cases h : 0 ≤ w1.toInt ∧ w1.toInt < s
      · have h' : 0 ≤ w1.toInt ∧ w1.toInt ≤ (s : Int) - 1 := by omega
        obtain ⟨j, hj, rfl⟩ := n_of h.1 h.2
        simp only [h, h', and_self, not_true, if_false, sp_ix_nI (show j < 6 by omega) (by omega), Option.bind_some, show (9 : Int32) - 5 = 4 from rfl, ixa 4 j 46 (4 + nI j) (by omega) (by omega) rfl]
        simp [sp_I_setI, (h5 j (by omega)).1]
      · have h' : ¬ (0 ≤ w1.toInt ∧ w1.toInt ≤ (s : Int) - 1) := by omega
        simp [h, h']
    · by_cases a1 : w2 = 1
      · subst a1
        have d1 : (0 ≤ (1 : Int32).toInt ∧ (1 : Int32).toInt ≤ 2) := by decide
        have d2 : ¬ (2 : Int32) ≤ 1 := by decide
        have d3 : ¬ (1 : Int32) = 0 := by decide
        simp only [d1, d2, d3, and_self, not_true, if_false, if_true]
        by_cases h : 0 ≤ w1.toInt ∧ w1.toInt < s
        · have h' : 0 ≤ w1.toInt ∧ w1.toInt ≤ (s : Int) - 1 := by omega
          obtain ⟨j, hj, rfl⟩ := n_of h.1 h.2
          simp only [h, h', and_self, not_true, if_false, sp_ix_nI (show j < 6 by omega) (by omega), Option.bind_some, show (15 : Int32) - 5 = 10 from rfl, ixa 10 j 46 (10 + nI j) (by omega) (by omega) rfl]
          simp [sp_I_setI, (h5 j (by omega)).2]
        · have h' : ¬ (0 ≤ w1.toInt ∧ w1.toInt ≤ (s : Int) - 1) := by omega
          simp [h, h']
      · by_cases a2 : w2 = 2
        · subst a2
          have d1 : (0 ≤ (2 : Int32).toInt ∧ (2 : Int32).toInt ≤ 2) := by decide
          have d2 : (2 : Int32) ≤ 2 := by decide
          have d3 : ¬ (2 : Int32) = 0 := by decide
          have d4 : ¬ (2 : Int32) = 1 := by decide
          simp only [d1, d2, d3, d4, and_self, not_true, if_false, if_true]
          by_cases h : 0 ≤ w1.toInt ∧ w1.toInt < p
          · have h' : 0 ≤ w1.toInt ∧ w1.toInt ≤ (p : Int) - 1 := by omega
            obtain ⟨j, hj, rfl⟩ := n_of h.1 h.2
            simp only [h, h', and_self, not_true, if_false, sp_ix_nI (show j < 5 by omega) (by omega), Option.bind_some, show (21 : Int32) - 5 = 16 from rfl, ixa 16 j 46 (16 + nI j) (by omega) (by omega) rfl]
            simp [sp_I_setI, h6 j (by omega)]
          · have h' : ¬ (0 ≤ w1.toInt ∧ w1.toInt ≤ (p : Int) - 1) := by omega
            simp [h, h']
        · have d1 : ¬ (0 ≤ w2.toInt ∧ w2.toInt ≤ 2) := by
            rw [n_eq] at a0 a1 a2
            have : (0 : Int32).toInt = 0 := rfl
            have : (1 : Int32).toInt = 1 := rfl
            have : (2 : Int32).toInt = 2 := rfl
            omega
          simp [a0, a1, a2, d1]
