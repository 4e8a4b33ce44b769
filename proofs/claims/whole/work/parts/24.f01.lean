set_option maxRecDepth 100000 in
theorem frX11_behindTest_j47 {F : Nat} {p : (Int32 × sp_Mem)} (a1 : Int32) (s0 : Int32) (M : sp_Mem) (h : fX11_behindTest_j47 F a1 s0 M = some p) : sp_fr [115, 114, 116, 117] ([(103, 29), (103, 23), (103, 14), (103, 15), (103, 17), (103, 16), (103, 19), (103, 18), (103, 30)] : List (Nat × Nat)) M p.2 := by
  unfold fX11_behindTest_j47 at h
  obtain ⟨M6, hM6, h⟩ := Option.bind_eq_some_iff.mp h
  refine sp_fr.tr (sp_fr.mono (by first | decide | simp) (by first | decide | simp) (frX11_push hM6)) ?_
  obtain ⟨M8, hM8, h⟩ := Option.bind_eq_some_iff.mp h
  refine sp_fr.tr (sp_fr.mono (by first | decide | simp) (by first | decide | simp) (frX11_emit hM8)) ?_
  obtain ⟨M9, hM9, h⟩ := Option.bind_eq_some_iff.mp h
  refine sp_fr.tr (sp_fr.mono (by first | decide | simp) (by first | decide | simp) (frX11_next hM9)) ?_
  cases h
  exact sp_fr.refl _ _ _
set_option maxRecDepth 100000 in
theorem frX11_behindTest_j32 {F : Nat} {p : (Int32 × sp_Mem)} (a1 : Int32) (s0 : Int32) (M : sp_Mem) (h : fX11_behindTest_j32 F a1 s0 M = some p) : sp_fr [115, 114, 116, 117] ([(103, 29), (103, 23), (103, 14), (103, 15), (103, 17), (103, 16), (103, 19), (103, 18), (103, 30)] : List (Nat × Nat)) M p.2 := by
  unfold fX11_behindTest_j32 at h
  obtain ⟨M4, hM4, h⟩ := Option.bind_eq_some_iff.mp h
  refine sp_fr.tr (sp_fr.mono (by first | decide | simp) (by first | decide | simp) (frX11_settle hM4)) ?_
  exact frX11_behindTest_j47 _ _ _ h
set_option maxRecDepth 100000 in
theorem frX11_behindTest_j22 {F : Nat} {p : (Int32 × sp_Mem)} (a1 : Int32) (M : sp_Mem) (h : fX11_behindTest_j22 F a1 M = some p) : sp_fr [115, 114, 116, 117] ([(103, 29), (103, 23), (103, 14), (103, 15), (103, 17), (103, 16), (103, 19), (103, 18), (103, 30)] : List (Nat × Nat)) M p.2 := by
  unfold fX11_behindTest_j22 at h
  exact frX11_behindTest_j32 _ _ _ h
set_option maxRecDepth 100000 in
theorem frX11_behindTest {F : Nat} {p : (Int32 × sp_Mem)} {M : sp_Mem} (h : fX11_behindTest F M = some p) : sp_fr [115, 114, 116, 117] ([(103, 29), (103, 23), (103, 14), (103, 15), (103, 17), (103, 16), (103, 19), (103, 18), (103, 30)] : List (Nat × Nat)) M p.2 := by
  unfold fX11_behindTest at h
  obtain ⟨u1, hu1, h⟩ := sp_do_e h
  by_cases hc2 : u1 = 0
  · have h := (if_pos hc2).symm.trans h
    by_cases hc10 : (fX11_isWord M 498) = 0
    · have h := (if_pos hc10).symm.trans h
      obtain ⟨v11, hv11, h⟩ := Option.bind_eq_some_iff.mp h
      by_cases hc12 : v11 = (-1)
      · have h := (if_pos hc12).symm.trans h
        cases h
        exact sp_fr.refl _ _ _
      · have h := (if_neg hc12).symm.trans h
        obtain ⟨M13, hM13, h⟩ := Option.bind_eq_some_iff.mp h
        refine sp_fr.tr (sp_fr.mono (by first | decide | simp) (by first | decide | simp) (frX11_must hM13)) ?_
        by_cases hc14 : (sp_I M13 103 19) = 0
        · have h := (if_pos hc14).symm.trans h
          obtain ⟨M15, hM15, h⟩ := Option.bind_eq_some_iff.mp h
          refine sp_fr.tr (sp_fr.mono (by first | decide | simp) (by first | decide | simp) (frX11_settle hM15)) ?_
          obtain ⟨M16, hM16, h⟩ := sp_do_e h
          refine sp_fr.tr (sp_fr_I (Or.inr (by first | decide | simp)) hM16) ?_
          obtain ⟨M17, hM17, h⟩ := sp_do_e h
          refine sp_fr.tr (sp_fr_I (Or.inr (by first | decide | simp)) hM17) ?_
          cases h
          exact sp_fr.refl _ _ _
        · have h := (if_neg hc14).symm.trans h
          cases h
          exact sp_fr.refl _ _ _
    · have h := (if_neg hc10).symm.trans h
      exact frX11_behindTest_j22 _ _ h
  · have h := (if_neg hc2).symm.trans h
    exact frX11_behindTest_j22 _ _ h
set_option maxRecDepth 100000 in
theorem frX11_readExpression_l20 {F : Nat} {kx : sp_Mem → Option sp_Mem} {p : sp_Mem} (hx : ∀  (M : sp_Mem), kx M = some p → sp_fr [115, 114, 116, 117] ([(103, 29), (103, 30), (103, 23), (103, 14), (103, 15), (103, 17), (103, 16), (103, 19), (103, 18), (103, 26)] : List (Nat × Nat)) M p) : ∀ (n : Nat) (a1 : Int32) (a2 : Int32) (M : sp_Mem), fX11_readExpression_l20 F kx n a1 a2 M = some p → sp_fr [115, 114, 116, 117] ([(103, 29), (103, 30), (103, 23), (103, 14), (103, 15), (103, 17), (103, 16), (103, 19), (103, 18), (103, 26)] : List (Nat × Nat)) M p := by
  intro n
  induction n with
  | zero =>
    intro a1 a2 M h
    rw [fX11_readExpression_l20] at h
    cases h
  | succ n ih =>
    intro a1 a2 M h
    rw [fX11_readExpression_l20] at h
    by_cases hc4 : (sp_I M 103 19) = 0
    · have h := (if_pos hc4).symm.trans h
      by_cases hc5 : a2 = 4
      · have h := (if_pos hc5).symm.trans h
        exact hx _ h
      · have h := (if_neg hc5).symm.trans h
        by_cases hc6 : a2 = 0
        · have h := (if_pos hc6).symm.trans h
          obtain ⟨x12, hx12, h⟩ := Option.bind_eq_some_iff.mp h
          refine sp_fr.tr (sp_fr.mono (by first | decide | simp) (by first | decide | simp) (frX11_readPlain hx12)) ?_
          exact ih _ _ _ h
        · have h := (if_neg hc6).symm.trans h
          by_cases hc7 : a2 = 1
          · have h := (if_pos hc7).symm.trans h
            obtain ⟨x11, hx11, h⟩ := Option.bind_eq_some_iff.mp h
            refine sp_fr.tr (sp_fr.mono (by first | decide | simp) (by first | decide | simp) (frX11_readPart hx11)) ?_
            exact ih _ _ _ h
          · have h := (if_neg hc7).symm.trans h
            by_cases hc8 : a2 = 3
            · have h := (if_pos hc8).symm.trans h
              obtain ⟨x10, hx10, h⟩ := Option.bind_eq_some_iff.mp h
              refine sp_fr.tr (sp_fr.mono (by first | decide | simp) (by first | decide | simp) (frX11_behindSum hx10)) ?_
              exact ih _ _ _ h
            · have h := (if_neg hc8).symm.trans h
              obtain ⟨x9, hx9, h⟩ := Option.bind_eq_some_iff.mp h
              refine sp_fr.tr (sp_fr.mono (by first | decide | simp) (by first | decide | simp) (frX11_behindTest hx9)) ?_
              exact ih _ _ _ h
    · have h := (if_neg hc4).symm.trans h
      exact hx _ h
set_option maxRecDepth 100000 in
theorem frX11_readExpression_j19 {F : Nat} {p : sp_Mem} (a1 : Int32) (s0 : Int32) (M : sp_Mem) (h : fX11_readExpression_j19 F a1 s0 M = some p) : sp_fr [115, 114, 116, 117] ([(103, 29), (103, 30), (103, 23), (103, 14), (103, 15), (103, 17), (103, 16), (103, 19), (103, 18), (103, 26)] : List (Nat × Nat)) M p := by
  unfold fX11_readExpression_j19 at h
  refine frX11_readExpression_l20 (fun M13 h => ?_) F _ _ _ h
  obtain ⟨M14, hM14, h⟩ := Option.bind_eq_some_iff.mp h
  refine sp_fr.tr (sp_fr.mono (by first | decide | simp) (by first | decide | simp) (frX11_settle hM14)) ?_
  cases h
  exact sp_fr.refl _ _ _
set_option maxRecDepth 100000 in
theorem frX11_readExpression {F : Nat} {p : sp_Mem} {M : sp_Mem} {a1 : Int32} (h : fX11_readExpression F M a1 = some p) : sp_fr [115, 114, 116, 117] ([(103, 29), (103, 30), (103, 23), (103, 14), (103, 15), (103, 17), (103, 16), (103, 19), (103, 18), (103, 26)] : List (Nat × Nat)) M p := by
  unfold fX11_readExpression at h
  obtain ⟨M1, hM1, h⟩ := sp_do_e h
  refine sp_fr.tr (sp_fr_I (Or.inr (by first | decide | simp)) hM1) ?_
  obtain ⟨M2, hM2, h⟩ := sp_do_e h
  refine sp_fr.tr (sp_fr_I (Or.inr (by first | decide | simp)) hM2) ?_
  exact frX11_readExpression_j19 _ _ _ h
set_option maxRecDepth 100000 in
theorem frX11_beginText {F : Nat} {p : sp_Mem} {M : sp_Mem} {a1 : Int32} (h : fX11_beginText F M a1 = some p) : sp_fr [] ([(103, 20), (103, 15), (103, 19), (103, 18), (103, 14), (103, 17), (103, 16), (103, 21), (103, 23), (103, 26)] : List (Nat × Nat)) M p := by
  unfold fX11_beginText at h
  obtain ⟨M1, hM1, h⟩ := sp_do_e h
  refine sp_fr.tr (sp_fr_I (Or.inr (by first | decide | simp)) hM1) ?_
  obtain ⟨_, hz2, h⟩ := Option.bind_eq_some_iff.mp h
  obtain ⟨M3, hM3, h⟩ := Option.bind_eq_some_iff.mp h
  refine sp_fr.tr (sp_fr.mono (by first | decide | simp) (by first | decide | simp) (frX11_begin hM3)) ?_
  obtain ⟨M4, hM4, h⟩ := sp_do_e h
  refine sp_fr.tr (sp_fr_I (Or.inr (by first | decide | simp)) hM4) ?_
  obtain ⟨M5, hM5, h⟩ := sp_do_e h
  refine sp_fr.tr (sp_fr_I (Or.inr (by first | decide | simp)) hM5) ?_
  obtain ⟨M6, hM6, h⟩ := sp_do_e h
  refine sp_fr.tr (sp_fr_I (Or.inr (by first | decide | simp)) hM6) ?_
  cases h
  exact sp_fr.refl _ _ _
set_option maxRecDepth 100000 in
theorem frX11_endText {F : Nat} {p : sp_Mem} {M : sp_Mem} (h : fX11_endText F M = some p) : sp_fr [] ([(103, 20), (103, 13), (103, 14), (103, 15), (103, 17), (103, 16), (103, 19), (103, 18)] : List (Nat × Nat)) M p := by
  unfold fX11_endText at h
  by_cases hc1 : (sp_I M 103 19) = 0
  · have h := (if_pos hc1).symm.trans h
    by_cases hc4 : (sp_I M 103 16) = 0
    · have h := (if_pos hc4).symm.trans h
      obtain ⟨M5, hM5, h⟩ := sp_do_e h
      refine sp_fr.tr (sp_fr_I (Or.inr (by first | decide | simp)) hM5) ?_
      obtain ⟨M6, hM6, h⟩ := sp_do_e h
      refine sp_fr.tr (sp_fr_I (Or.inr (by first | decide | simp)) hM6) ?_
      cases h
      exact sp_fr.refl _ _ _
    · have h := (if_neg hc4).symm.trans h
      obtain ⟨M7, hM7, h⟩ := Option.bind_eq_some_iff.mp h
      refine sp_fr.tr (sp_fr.mono (by first | decide | simp) (by first | decide | simp) (frX11_must hM7)) ?_
      obtain ⟨M8, hM8, h⟩ := sp_do_e h
      refine sp_fr.tr (sp_fr_I (Or.inr (by first | decide | simp)) hM8) ?_
      obtain ⟨M9, hM9, h⟩ := sp_do_e h
      refine sp_fr.tr (sp_fr_I (Or.inr (by first | decide | simp)) hM9) ?_
      cases h
      exact sp_fr.refl _ _ _
  · have h := (if_neg hc1).symm.trans h
    obtain ⟨M2, hM2, h⟩ := sp_do_e h
    refine sp_fr.tr (sp_fr_I (Or.inr (by first | decide | simp)) hM2) ?_
    obtain ⟨M3, hM3, h⟩ := sp_do_e h
    refine sp_fr.tr (sp_fr_I (Or.inr (by first | decide | simp)) hM3) ?_
    cases h
    exact sp_fr.refl _ _ _
set_option maxRecDepth 100000 in
theorem frX11_readLaw_l4 {F : Nat} {kx : Int32 → sp_Mem → Option sp_Mem} {p : sp_Mem} (hx : ∀ (a1 : Int32) (M : sp_Mem), kx a1 M = some p → sp_fr [113, 115, 114, 116, 117] ([(103, 14), (103, 15), (103, 17), (103, 16), (103, 19), (103, 18), (103, 21), (103, 29), (103, 30), (103, 23), (103, 26)] : List (Nat × Nat)) M p) : ∀ (n : Nat) (a1 : Int32) (a2 : Int32) (M : sp_Mem), fX11_readLaw_l4 F kx n a1 a2 M = some p → sp_fr [113, 115, 114, 116, 117] ([(103, 14), (103, 15), (103, 17), (103, 16), (103, 19), (103, 18), (103, 21), (103, 29), (103, 30), (103, 23), (103, 26)] : List (Nat × Nat)) M p := by
  intro n
  induction n with
  | zero =>
    intro a1 a2 M h
    rw [fX11_readLaw_l4] at h
    cases h
  | succ n ih =>
    intro a1 a2 M h
    rw [fX11_readLaw_l4] at h
    by_cases hc1 : 4 ≤ a2
    · have h := (if_pos hc1).symm.trans h
      exact hx _ _ h
    · have h := (if_neg hc1).symm.trans h
      obtain ⟨j2, hj2, h⟩ := Option.bind_eq_some_iff.mp h
      obtain ⟨u4, hu4, h⟩ := sp_do_e h
      exact ih _ _ _ h
set_option maxRecDepth 100000 in
theorem frX11_readLaw_l75 {F : Nat} {kx : Int32 → Int32 → sp_Mem → Option sp_Mem} {p : sp_Mem} (hx : ∀ (a1 : Int32) (a2 : Int32) (M : sp_Mem), kx a1 a2 M = some p → sp_fr [113, 115, 114, 116, 117] ([(103, 14), (103, 15), (103, 17), (103, 16), (103, 19), (103, 18), (103, 21), (103, 29), (103, 30), (103, 23), (103, 26)] : List (Nat × Nat)) M p) : ∀ (n : Nat) (a1 : Int32) (a2 : Int32) (a3 : Int32) (M : sp_Mem), fX11_readLaw_l75 F kx n a1 a2 a3 M = some p → sp_fr [113, 115, 114, 116, 117] ([(103, 14), (103, 15), (103, 17), (103, 16), (103, 19), (103, 18), (103, 21), (103, 29), (103, 30), (103, 23), (103, 26)] : List (Nat × Nat)) M p := by
  intro n
  induction n with
  | zero =>
    intro a1 a2 a3 M h
    rw [fX11_readLaw_l75] at h
    cases h
  | succ n ih =>
    intro a1 a2 a3 M h
    rw [fX11_readLaw_l75] at h
    by_cases hc11 : 8 ≤ a3
    · have h := (if_pos hc11).symm.trans h
      exact hx _ _ _ h
    · have h := (if_neg hc11).symm.trans h
      obtain ⟨j12, hj12, h⟩ := Option.bind_eq_some_iff.mp h
      obtain ⟨M13, hM13, h⟩ := sp_do_e h
      refine sp_fr.tr (sp_fr_I (Or.inl (by first | decide | simp)) hM13) ?_
      exact ih _ _ _ _ h
set_option maxRecDepth 100000 in
theorem frX11_readLaw_j185 {F : Nat} {p : sp_Mem} (a2 : Int32) (M : sp_Mem) (h : fX11_readLaw_j185 F a2 M = some p) : sp_fr [113, 115, 114, 116, 117] ([(103, 14), (103, 15), (103, 17), (103, 16), (103, 19), (103, 18), (103, 21), (103, 29), (103, 30), (103, 23), (103, 26)] : List (Nat × Nat)) M p := by
  unfold fX11_readLaw_j185 at h
  obtain ⟨j28, hj28, h⟩ := Option.bind_eq_some_iff.mp h
  obtain ⟨M29, hM29, h⟩ := sp_do_e h
  refine sp_fr.tr (sp_fr_I (Or.inl (by first | decide | simp)) hM29) ?_
  cases h
  exact sp_fr.refl _ _ _
set_option maxRecDepth 100000 in
theorem frX11_readLaw_j135 {F : Nat} {p : sp_Mem} (a2 : Int32) (M : sp_Mem) (h : fX11_readLaw_j135 F a2 M = some p) : sp_fr [113, 115, 114, 116, 117] ([(103, 14), (103, 15), (103, 17), (103, 16), (103, 19), (103, 18), (103, 21), (103, 29), (103, 30), (103, 23), (103, 26)] : List (Nat × Nat)) M p := by
  unfold fX11_readLaw_j135 at h
  obtain ⟨j23, hj23, h⟩ := Option.bind_eq_some_iff.mp h
  obtain ⟨M24, hM24, h⟩ := sp_do_e h
  refine sp_fr.tr (sp_fr_I (Or.inl (by first | decide | simp)) hM24) ?_
  obtain ⟨j25, hj25, h⟩ := Option.bind_eq_some_iff.mp h
  obtain ⟨M26, hM26, h⟩ := sp_do_e h
  refine sp_fr.tr (sp_fr_I (Or.inl (by first | decide | simp)) hM26) ?_
  by_cases hc27 : (sp_I M26 103 19) = 0
  · have h := (if_pos hc27).symm.trans h
    by_cases hc30 : (fX11_isWord M26 294) = 0
    · have h := (if_pos hc30).symm.trans h
      exact frX11_readLaw_j185 _ _ h
    · have h := (if_neg hc30).symm.trans h
      obtain ⟨M31, hM31, h⟩ := Option.bind_eq_some_iff.mp h
      refine sp_fr.tr (sp_fr.mono (by first | decide | simp) (by first | decide | simp) (frX11_next hM31)) ?_
      obtain ⟨M32, hM32, h⟩ := Option.bind_eq_some_iff.mp h
      refine sp_fr.tr (sp_fr.mono (by first | decide | simp) (by first | decide | simp) (frX11_readExpression hM32)) ?_
      exact frX11_readLaw_j185 _ _ h
  · have h := (if_neg hc27).symm.trans h
    exact frX11_readLaw_j185 _ _ h
set_option maxRecDepth 100000 in
theorem frX11_readLaw_j54 {F : Nat} {p : sp_Mem} (a1 : Int32) (s0 : Int32) (M : sp_Mem) (h : fX11_readLaw_j54 F a1 s0 M = some p) : sp_fr [113, 115, 114, 116, 117] ([(103, 14), (103, 15), (103, 17), (103, 16), (103, 19), (103, 18), (103, 21), (103, 29), (103, 30), (103, 23), (103, 26)] : List (Nat × Nat)) M p := by
  unfold fX11_readLaw_j54 at h
  obtain ⟨M8, hM8, h⟩ := Option.bind_eq_some_iff.mp h
  refine sp_fr.tr (sp_fr.mono (by first | decide | simp) (by first | decide | simp) (frX11_must hM8)) ?_
  by_cases hc9 : (sp_I M8 103 19) = 0
  · have h := (if_pos hc9).symm.trans h
    obtain ⟨u10, hu10, h⟩ := sp_do_e h
    refine frX11_readLaw_l75 (fun b15 b16 M14 h => ?_) F _ _ _ _ h
    obtain ⟨j17, hj17, h⟩ := Option.bind_eq_some_iff.mp h
    obtain ⟨M18, hM18, h⟩ := sp_do_e h
    refine sp_fr.tr (sp_fr_I (Or.inl (by first | decide | simp)) hM18) ?_
    obtain ⟨M19, hM19, h⟩ := sp_do_e h
    refine sp_fr.tr (sp_fr_I (Or.inr (by first | decide | simp)) hM19) ?_
    obtain ⟨j20, hj20, h⟩ := Option.bind_eq_some_iff.mp h
    obtain ⟨M21, hM21, h⟩ := sp_do_e h
    refine sp_fr.tr (sp_fr_I (Or.inl (by first | decide | simp)) hM21) ?_
    by_cases hc22 : 2 ≤ b15
    · have h := (if_pos hc22).symm.trans h
      exact frX11_readLaw_j135 _ _ h
    · have h := (if_neg hc22).symm.trans h
      obtain ⟨M33, hM33, h⟩ := Option.bind_eq_some_iff.mp h
      refine sp_fr.tr (sp_fr.mono (by first | decide | simp) (by first | decide | simp) (frX11_readExpression hM33)) ?_
      exact frX11_readLaw_j135 _ _ h
  · have h := (if_neg hc9).symm.trans h
    cases h
    exact sp_fr.refl _ _ _
set_option maxRecDepth 100000 in
theorem frX11_readLaw_j53 {F : Nat} {p : sp_Mem} (a1 : Int32) (M : sp_Mem) (h : fX11_readLaw_j53 F a1 M = some p) : sp_fr [113, 115, 114, 116, 117] ([(103, 14), (103, 15), (103, 17), (103, 16), (103, 19), (103, 18), (103, 21), (103, 29), (103, 30), (103, 23), (103, 26)] : List (Nat × Nat)) M p := by
  unfold fX11_readLaw_j53 at h
  exact frX11_readLaw_j54 _ _ _ h
set_option maxRecDepth 100000 in
theorem frX11_readLaw {F : Nat} {p : sp_Mem} {M : sp_Mem} (h : fX11_readLaw F M = some p) : sp_fr [113, 115, 114, 116, 117] ([(103, 14), (103, 15), (103, 17), (103, 16), (103, 19), (103, 18), (103, 21), (103, 29), (103, 30), (103, 23), (103, 26)] : List (Nat × Nat)) M p := by
  unfold fX11_readLaw at h
  refine frX11_readLaw_l4 (fun b6 M5 h => ?_) F _ _ _ h
  by_cases hc7 : b6 = (-1)
  · have h := (if_pos hc7).symm.trans h
    exact frX11_readLaw_j53 _ _ h
  · have h := (if_neg hc7).symm.trans h
    exact frX11_readLaw_j54 _ _ _ h
set_option maxRecDepth 100000 in
theorem frX11_law_l37 {F : Nat} {kx : sp_Mem → Option (Int32 × sp_Mem)} {p : (Int32 × sp_Mem)} (hx : ∀  (M : sp_Mem), kx M = some p → sp_fr [113, 115, 114, 116, 117, 105, 104] ([(103, 0), (103, 20), (103, 15), (103, 19), (103, 18), (103, 14), (103, 17), (103, 16), (103, 21), (103, 23), (103, 26), (103, 29), (103, 30), (103, 13), (103, 1)] : List (Nat × Nat)) M p.2) : ∀ (n : Nat)  (M : sp_Mem), fX11_law_l37 F kx n M = some p → sp_fr [113, 115, 114, 116, 117, 105, 104] ([(103, 0), (103, 20), (103, 15), (103, 19), (103, 18), (103, 14), (103, 17), (103, 16), (103, 21), (103, 23), (103, 26), (103, 29), (103, 30), (103, 13), (103, 1)] : List (Nat × Nat)) M p.2 := by
  intro n
  induction n with
  | zero =>
    intro M h
    rw [fX11_law_l37] at h
    cases h
  | succ n ih =>
    intro M h
    rw [fX11_law_l37] at h
    by_cases hc5 : (sp_I M 103 19) = 0
    · have h := (if_pos hc5).symm.trans h
      by_cases hc6 : (fX11_isSign M 59) = 0
      · have h := (if_pos hc6).symm.trans h
        exact hx _ h
      · have h := (if_neg hc6).symm.trans h
        obtain ⟨M7, hM7, h⟩ := Option.bind_eq_some_iff.mp h
        refine sp_fr.tr (sp_fr.mono (by first | decide | simp) (by first | decide | simp) (frX11_next hM7)) ?_
        obtain ⟨M8, hM8, h⟩ := Option.bind_eq_some_iff.mp h
        refine sp_fr.tr (sp_fr.mono (by first | decide | simp) (by first | decide | simp) (frX11_readLaw hM8)) ?_
        exact ih _ h
    · have h := (if_neg hc5).symm.trans h
      exact hx _ h
set_option maxRecDepth 100000 in
theorem frX11_law_l110 {F : Nat} {kx : Int32 → sp_Mem → Option (Int32 × sp_Mem)} {p : (Int32 × sp_Mem)} (hx : ∀ (a1 : Int32) (M : sp_Mem), kx a1 M = some p → sp_fr [113, 115, 114, 116, 117, 105, 104] ([(103, 0), (103, 20), (103, 15), (103, 19), (103, 18), (103, 14), (103, 17), (103, 16), (103, 21), (103, 23), (103, 26), (103, 29), (103, 30), (103, 13), (103, 1)] : List (Nat × Nat)) M p.2) : ∀ (n : Nat) (a1 : Int32) (a2 : Int32) (M : sp_Mem), fX11_law_l110 F kx n a1 a2 M = some p → sp_fr [113, 115, 114, 116, 117, 105, 104] ([(103, 0), (103, 20), (103, 15), (103, 19), (103, 18), (103, 14), (103, 17), (103, 16), (103, 21), (103, 23), (103, 26), (103, 29), (103, 30), (103, 13), (103, 1)] : List (Nat × Nat)) M p.2 := by
  intro n
  induction n with
  | zero =>
    intro a1 a2 M h
    rw [fX11_law_l110] at h
    cases h
  | succ n ih =>
    intro a1 a2 M h
    rw [fX11_law_l110] at h
    by_cases hc15 : (8 * (sp_I M 103 21)) ≤ a2
    · have h := (if_pos hc15).symm.trans h
      exact hx _ _ h
    · have h := (if_neg hc15).symm.trans h
      obtain ⟨j16, hj16, h⟩ := Option.bind_eq_some_iff.mp h
      obtain ⟨j17, hj17, h⟩ := Option.bind_eq_some_iff.mp h
      obtain ⟨M18, hM18, h⟩ := sp_do_e h
      refine sp_fr.tr (sp_fr_I (Or.inl (by first | decide | simp)) hM18) ?_
      exact ih _ _ _ h
set_option maxRecDepth 100000 in
theorem frX11_law_l145 {F : Nat} {kx : sp_Mem → Option (Int32 × sp_Mem)} {p : (Int32 × sp_Mem)} (hx : ∀  (M : sp_Mem), kx M = some p → sp_fr [113, 115, 114, 116, 117, 105, 104] ([(103, 0), (103, 20), (103, 15), (103, 19), (103, 18), (103, 14), (103, 17), (103, 16), (103, 21), (103, 23), (103, 26), (103, 29), (103, 30), (103, 13), (103, 1)] : List (Nat × Nat)) M p.2) : ∀ (n : Nat) (a1 : Int32) (a2 : Int32) (M : sp_Mem), fX11_law_l145 F kx n a1 a2 M = some p → sp_fr [113, 115, 114, 116, 117, 105, 104] ([(103, 0), (103, 20), (103, 15), (103, 19), (103, 18), (103, 14), (103, 17), (103, 16), (103, 21), (103, 23), (103, 26), (103, 29), (103, 30), (103, 13), (103, 1)] : List (Nat × Nat)) M p.2 := by
  intro n
  induction n with
  | zero =>
    intro a1 a2 M h
    rw [fX11_law_l145] at h
    cases h
  | succ n ih =>
    intro a1 a2 M h
    rw [fX11_law_l145] at h
    by_cases hc21 : (sp_I M 103 23) ≤ a2
    · have h := (if_pos hc21).symm.trans h
      exact hx _ h
    · have h := (if_neg hc21).symm.trans h
      obtain ⟨j22, hj22, h⟩ := Option.bind_eq_some_iff.mp h
      obtain ⟨j23, hj23, h⟩ := Option.bind_eq_some_iff.mp h
      obtain ⟨M24, hM24, h⟩ := sp_do_e h
      refine sp_fr.tr (sp_fr_I (Or.inl (by first | decide | simp)) hM24) ?_
      obtain ⟨j25, hj25, h⟩ := Option.bind_eq_some_iff.mp h
      obtain ⟨j26, hj26, h⟩ := Option.bind_eq_some_iff.mp h
      obtain ⟨M27, hM27, h⟩ := sp_do_e h
      refine sp_fr.tr (sp_fr_I (Or.inl (by first | decide | simp)) hM27) ?_
      exact ih _ _ _ h
set_option maxRecDepth 100000 in
theorem frX11_law_j64 {F : Nat} {p : (Int32 × sp_Mem)} (M : sp_Mem) (h : fX11_law_j64 F M = some p) : sp_fr [113, 115, 114, 116, 117, 105, 104] ([(103, 0), (103, 20), (103, 15), (103, 19), (103, 18), (103, 14), (103, 17), (103, 16), (103, 21), (103, 23), (103, 26), (103, 29), (103, 30), (103, 13), (103, 1)] : List (Nat × Nat)) M p.2 := by
  unfold fX11_law_j64 at h
  obtain ⟨M10, hM10, h⟩ := Option.bind_eq_some_iff.mp h
  refine sp_fr.tr (sp_fr.mono (by first | decide | simp) (by first | decide | simp) (frX11_endText hM10)) ?_
  by_cases hc11 : (sp_I M10 103 19) = 0
  · have h := (if_pos hc11).symm.trans h
    obtain ⟨u12, hu12, h⟩ := sp_do_e h
    obtain ⟨j13, hj13, h⟩ := Option.bind_eq_some_iff.mp h
    obtain ⟨M14, hM14, h⟩ := sp_do_e h
    refine sp_fr.tr (sp_fr_I (Or.inl (by first | decide | simp)) hM14) ?_
    refine frX11_law_l110 (fun b20 M19 h => ?_) F _ _ _ h
    refine frX11_law_l145 (fun M28 h => ?_) F _ _ _ h
    obtain ⟨M29, hM29, h⟩ := sp_do_e h
    refine sp_fr.tr (sp_fr_I (Or.inl (by first | decide | simp)) hM29) ?_
    obtain ⟨x30, hx30, h⟩ := Option.bind_eq_some_iff.mp h
    refine sp_fr.tr (sp_fr.mono (by first | decide | simp) (by first | decide | simp) (frX11_tell hx30)) ?_
    cases h
    exact sp_fr.refl _ _ _
  · have h := (if_neg hc11).symm.trans h
    obtain ⟨x31, hx31, h⟩ := Option.bind_eq_some_iff.mp h
    refine sp_fr.tr (sp_fr.mono (by first | decide | simp) (by first | decide | simp) (frX11_tell hx31)) ?_
    cases h
    exact sp_fr.refl _ _ _
set_option maxRecDepth 100000 in
theorem frX11_law {F : Nat} {p : (Int32 × sp_Mem)} {M : sp_Mem} (h : fX11_law F M = some p) : sp_fr [113, 115, 114, 116, 117, 105, 104] ([(103, 0), (103, 20), (103, 15), (103, 19), (103, 18), (103, 14), (103, 17), (103, 16), (103, 21), (103, 23), (103, 26), (103, 29), (103, 30), (103, 13), (103, 1)] : List (Nat × Nat)) M p.2 := by
  unfold fX11_law at h
  obtain ⟨M1, hM1, h⟩ := sp_do_e h
  refine sp_fr.tr (sp_fr_I (Or.inr (by first | decide | simp)) hM1) ?_
  by_cases hc2 : (sp_I M1 105 3) = 6
  · have h := (if_pos hc2).symm.trans h
    obtain ⟨M32, hM32, h⟩ := sp_do_e h
    refine sp_fr.tr (sp_fr_I (Or.inr (by first | decide | simp)) hM32) ?_
    obtain ⟨x33, hx33, h⟩ := Option.bind_eq_some_iff.mp h
    refine sp_fr.tr (sp_fr.mono (by first | decide | simp) (by first | decide | simp) (frX11_tell hx33)) ?_
    cases h
    exact sp_fr.refl _ _ _
  · have h := (if_neg hc2).symm.trans h
    obtain ⟨M3, hM3, h⟩ := Option.bind_eq_some_iff.mp h
    refine sp_fr.tr (sp_fr.mono (by first | decide | simp) (by first | decide | simp) (frX11_beginText hM3)) ?_
    obtain ⟨M4, hM4, h⟩ := Option.bind_eq_some_iff.mp h
    refine sp_fr.tr (sp_fr.mono (by first | decide | simp) (by first | decide | simp) (frX11_readLaw hM4)) ?_
    refine frX11_law_l37 (fun M9 h => ?_) F _ h
    exact frX11_law_j64 _ h
set_option maxRecDepth 100000 in
theorem frX11_force {p : (Int32 × sp_Mem)} {M : sp_Mem} {a1 : Int32} (h : fX11_force M a1 = some p) : sp_fr [104, 105] ([(103, 0), (103, 1)] : List (Nat × Nat)) M p.2 := by
  unfold fX11_force at h
  obtain ⟨M1, hM1, h⟩ := sp_do_e h
  refine sp_fr.tr (sp_fr_I (Or.inr (by first | decide | simp)) hM1) ?_
  obtain ⟨v2, hv2, h⟩ := Option.bind_eq_some_iff.mp h
  by_cases hc3 : v2 = 0
  · have h := (if_pos hc3).symm.trans h
    obtain ⟨x4, hx4, h⟩ := Option.bind_eq_some_iff.mp h
    refine sp_fr.tr (sp_fr.mono (by first | decide | simp) (by first | decide | simp) (frX11_tell hx4)) ?_
    cases h
    exact sp_fr.refl _ _ _
  · have h := (if_neg hc3).symm.trans h
    obtain ⟨x5, hx5, h⟩ := Option.bind_eq_some_iff.mp h
    refine sp_fr.tr (sp_fr.mono (by first | decide | simp) (by first | decide | simp) (frX11_change hx5)) ?_
    cases h
    exact sp_fr.refl _ _ _
set_option maxRecDepth 100000 in
theorem frX11_isBarred {F : Nat} {p : (Int32 × sp_Mem)} {M : sp_Mem} {a1 : Int32} {a2 : Int32} (h : fX11_isBarred F M a1 a2 = some p) : sp_fr [121, 123] ([(103, 34), (103, 38), (103, 39), (103, 40)] : List (Nat × Nat)) M p.2 := by
  unfold fX11_isBarred at h
  obtain ⟨j1, hj1, h⟩ := Option.bind_eq_some_iff.mp h
  by_cases hc2 : (sp_I M 105 j1) = 3
  · have h := (if_pos hc2).symm.trans h
    cases h
    exact sp_fr.refl _ _ _
  · have h := (if_neg hc2).symm.trans h
    obtain ⟨x3, hx3, h⟩ := Option.bind_eq_some_iff.mp h
    refine sp_fr.tr (sp_fr.mono (by first | decide | simp) (by first | decide | simp) (frX11_tells hx3)) ?_
    cases h
    exact sp_fr.refl _ _ _
set_option maxRecDepth 100000 in
theorem frX11_endSpark {p : sp_Mem} {M : sp_Mem} {a1 : Int32} (h : fX11_endSpark M a1 = some p) : sp_fr [105] ([] : List (Nat × Nat)) M p := by
  unfold fX11_endSpark at h
  obtain ⟨j1, hj1, h⟩ := Option.bind_eq_some_iff.mp h
  obtain ⟨M2, hM2, h⟩ := sp_do_e h
  refine sp_fr.tr (sp_fr_I (Or.inl (by first | decide | simp)) hM2) ?_
  obtain ⟨j3, hj3, h⟩ := Option.bind_eq_some_iff.mp h
  obtain ⟨M4, hM4, h⟩ := sp_do_e h
  refine sp_fr.tr (sp_fr_I (Or.inl (by first | decide | simp)) hM4) ?_
  cases h
  exact sp_fr.refl _ _ _
set_option maxRecDepth 100000 in
theorem frX11_callIt {p : sp_Mem} {M : sp_Mem} {a1 : Int32} {a2 : Int32} (h : fX11_callIt M a1 a2 = some p) : sp_fr [105] ([] : List (Nat × Nat)) M p := by
  unfold fX11_callIt at h
  obtain ⟨j1, hj1, h⟩ := Option.bind_eq_some_iff.mp h
  obtain ⟨j2, hj2, h⟩ := Option.bind_eq_some_iff.mp h
  obtain ⟨M3, hM3, h⟩ := sp_do_e h
  refine sp_fr.tr (sp_fr_I (Or.inl (by first | decide | simp)) hM3) ?_
  obtain ⟨j4, hj4, h⟩ := Option.bind_eq_some_iff.mp h
  by_cases hc5 : (sp_I M3 105 j4) = (sp_I M3 105 8)
  · have h := (if_pos hc5).symm.trans h
    obtain ⟨M6, hM6, h⟩ := Option.bind_eq_some_iff.mp h
    refine sp_fr.tr (sp_fr.mono (by first | decide | simp) (by first | decide | simp) (frX11_endSpark hM6)) ?_
    cases h
    exact sp_fr.refl _ _ _
  · have h := (if_neg hc5).symm.trans h
    cases h
    exact sp_fr.refl _ _ _
set_option maxRecDepth 100000 in
theorem frX11_canCall {F : Nat} {p : (Int32 × sp_Mem)} {M : sp_Mem} {a1 : Int32} {a2 : Int32} (h : fX11_canCall F M a1 a2 = some p) : sp_fr [121, 123] ([(103, 34), (103, 38), (103, 39), (103, 40)] : List (Nat × Nat)) M p.2 := by
  unfold fX11_canCall at h
  obtain ⟨v1, hv1, h⟩ := Option.bind_eq_some_iff.mp h
  by_cases hc2 : v1 = 0
  · have h := (if_pos hc2).symm.trans h
    cases h
    exact sp_fr.refl _ _ _
  · have h := (if_neg hc2).symm.trans h
    obtain ⟨j3, hj3, h⟩ := Option.bind_eq_some_iff.mp h
    obtain ⟨x4, hx4, h⟩ := Option.bind_eq_some_iff.mp h
    refine sp_fr.tr (sp_fr.mono (by first | decide | simp) (by first | decide | simp) (frX11_comes hx4)) ?_
    cases h
    exact sp_fr.refl _ _ _
set_option maxRecDepth 100000 in
theorem frX11_callNow {F : Nat} {p : (Int32 × sp_Mem)} {M : sp_Mem} {a1 : Int32} {a2 : Int32} (h : fX11_callNow F M a1 a2 = some p) : sp_fr [121, 123, 108, 109, 105] ([(103, 34), (103, 38), (103, 39), (103, 40), (103, 8)] : List (Nat × Nat)) M p.2 := by
  unfold fX11_callNow at h
  obtain ⟨v1, hv1, h⟩ := Option.bind_eq_some_iff.mp h
  by_cases hc2 : v1 = 0
  · have h := (if_pos hc2).symm.trans h
    cases h
    exact sp_fr.refl _ _ _
  · have h := (if_neg hc2).symm.trans h
    obtain ⟨v3, hv3, h⟩ := Option.bind_eq_some_iff.mp h
    by_cases hc4 : v3 = 0
    · have h := (if_pos hc4).symm.trans h
      cases h
      exact sp_fr.refl _ _ _
    · have h := (if_neg hc4).symm.trans h
      obtain ⟨x5, hx5, h⟩ := Option.bind_eq_some_iff.mp h
      refine sp_fr.tr (sp_fr.mono (by first | decide | simp) (by first | decide | simp) (frX11_canCall hx5)) ?_
      by_cases hc6 : x5.1 = 0
      · have h := (if_pos hc6).symm.trans h
        cases h
        exact sp_fr.refl _ _ _
      · have h := (if_neg hc6).symm.trans h
        obtain ⟨M7, hM7, h⟩ := Option.bind_eq_some_iff.mp h
        refine sp_fr.tr (sp_fr.mono (by first | decide | simp) (by first | decide | simp) (frX11_remember hM7)) ?_
        obtain ⟨j8, hj8, h⟩ := Option.bind_eq_some_iff.mp h
        obtain ⟨j9, hj9, h⟩ := Option.bind_eq_some_iff.mp h
        obtain ⟨v10, hv10, h⟩ := Option.bind_eq_some_iff.mp h
        obtain ⟨M11, hM11, h⟩ := Option.bind_eq_some_iff.mp h
        refine sp_fr.tr (sp_fr.mono (by first | decide | simp) (by first | decide | simp) (frX11_callIt hM11)) ?_
        cases h
        exact sp_fr.refl _ _ _
set_option maxRecDepth 100000 in
theorem frX11_call {F : Nat} {p : (Int32 × sp_Mem)} {M : sp_Mem} {a1 : Int32} {a2 : Int32} (h : fX11_call F M a1 a2 = some p) : sp_fr [121, 123, 108, 109, 105, 104] ([(103, 0), (103, 34), (103, 38), (103, 39), (103, 40), (103, 8), (103, 1)] : List (Nat × Nat)) M p.2 := by
  unfold fX11_call at h
  obtain ⟨M1, hM1, h⟩ := sp_do_e h
  refine sp_fr.tr (sp_fr_I (Or.inr (by first | decide | simp)) hM1) ?_
  obtain ⟨x2, hx2, h⟩ := Option.bind_eq_some_iff.mp h
  refine sp_fr.tr (sp_fr.mono (by first | decide | simp) (by first | decide | simp) (frX11_callNow hx2)) ?_
  obtain ⟨x3, hx3, h⟩ := Option.bind_eq_some_iff.mp h
  refine sp_fr.tr (sp_fr.mono (by first | decide | simp) (by first | decide | simp) (frX11_tell hx3)) ?_
  cases h
  exact sp_fr.refl _ _ _
set_option maxRecDepth 100000 in
theorem frX11_wetNow {F : Nat} {p : (Int32 × sp_Mem)} {M : sp_Mem} {a1 : Int32} (h : fX11_wetNow F M a1 = some p) : sp_fr [108, 109, 105] ([(103, 8)] : List (Nat × Nat)) M p.2 := by
  unfold fX11_wetNow at h
  by_cases hc1 : (fX11_isCell a1) = 0
  · have h := (if_pos hc1).symm.trans h
    cases h
    exact sp_fr.refl _ _ _
  · have h := (if_neg hc1).symm.trans h
    obtain ⟨j2, hj2, h⟩ := Option.bind_eq_some_iff.mp h
    obtain ⟨u3, hu3, h⟩ := sp_do_e h
    by_cases hc4 : u3 = 1
    · have h := (if_pos hc4).symm.trans h
      cases h
      exact sp_fr.refl _ _ _
    · have h := (if_neg hc4).symm.trans h
      by_cases hc5 : u3 = 3
      · have h := (if_pos hc5).symm.trans h
        cases h
        exact sp_fr.refl _ _ _
      · have h := (if_neg hc5).symm.trans h
        obtain ⟨M6, hM6, h⟩ := Option.bind_eq_some_iff.mp h
        refine sp_fr.tr (sp_fr.mono (by first | decide | simp) (by first | decide | simp) (frX11_remember hM6)) ?_
        obtain ⟨j7, hj7, h⟩ := Option.bind_eq_some_iff.mp h
        obtain ⟨M8, hM8, h⟩ := sp_do_e h
        refine sp_fr.tr (sp_fr_I (Or.inl (by first | decide | simp)) hM8) ?_
        cases h
        exact sp_fr.refl _ _ _
set_option maxRecDepth 100000 in
theorem frX11_wet {F : Nat} {p : (Int32 × sp_Mem)} {M : sp_Mem} {a1 : Int32} (h : fX11_wet F M a1 = some p) : sp_fr [108, 109, 105, 104] ([(103, 0), (103, 8), (103, 1)] : List (Nat × Nat)) M p.2 := by
  unfold fX11_wet at h
  obtain ⟨M1, hM1, h⟩ := sp_do_e h
  refine sp_fr.tr (sp_fr_I (Or.inr (by first | decide | simp)) hM1) ?_
  obtain ⟨x2, hx2, h⟩ := Option.bind_eq_some_iff.mp h
  refine sp_fr.tr (sp_fr.mono (by first | decide | simp) (by first | decide | simp) (frX11_wetNow hx2)) ?_
  obtain ⟨x3, hx3, h⟩ := Option.bind_eq_some_iff.mp h
  refine sp_fr.tr (sp_fr.mono (by first | decide | simp) (by first | decide | simp) (frX11_tell hx3)) ?_
  cases h
  exact sp_fr.refl _ _ _
set_option maxRecDepth 100000 in
theorem frX11_walkNow {F : Nat} {p : (Int32 × sp_Mem)} {M : sp_Mem} {a1 : Int32} {a2 : Int32} (h : fX11_walkNow F M a1 a2 = some p) : sp_fr [108, 109, 105] ([(103, 8)] : List (Nat × Nat)) M p.2 := by
  unfold fX11_walkNow at h
  by_cases hc1 : (fX11_in (Int32.toInt64 a2) 1 4) = 0
  · have h := (if_pos hc1).symm.trans h
    cases h
    exact sp_fr.refl _ _ _
  · have h := (if_neg hc1).symm.trans h
    obtain ⟨v2, hv2, h⟩ := Option.bind_eq_some_iff.mp h
    by_cases hc3 : v2 = 0
    · have h := (if_pos hc3).symm.trans h
      cases h
      exact sp_fr.refl _ _ _
    · have h := (if_neg hc3).symm.trans h
      obtain ⟨v4, hv4, h⟩ := Option.bind_eq_some_iff.mp h
      by_cases hc5 : v4 = 0
      · have h := (if_pos hc5).symm.trans h
        cases h
        exact sp_fr.refl _ _ _
      · have h := (if_neg hc5).symm.trans h
        obtain ⟨M6, hM6, h⟩ := Option.bind_eq_some_iff.mp h
        refine sp_fr.tr (sp_fr.mono (by first | decide | simp) (by first | decide | simp) (frX11_remember hM6)) ?_
        obtain ⟨j7, hj7, h⟩ := Option.bind_eq_some_iff.mp h
        obtain ⟨v8, hv8, h⟩ := Option.bind_eq_some_iff.mp h
        obtain ⟨j9, hj9, h⟩ := Option.bind_eq_some_iff.mp h
        obtain ⟨M10, hM10, h⟩ := sp_do_e h
        refine sp_fr.tr (sp_fr_I (Or.inl (by first | decide | simp)) hM10) ?_
        obtain ⟨j11, hj11, h⟩ := Option.bind_eq_some_iff.mp h
        cases h
        exact sp_fr.refl _ _ _
set_option maxRecDepth 100000 in
theorem frX11_walk {F : Nat} {p : (Int32 × sp_Mem)} {M : sp_Mem} {a1 : Int32} {a2 : Int32} (h : fX11_walk F M a1 a2 = some p) : sp_fr [108, 109, 105, 104] ([(103, 0), (103, 8), (103, 1)] : List (Nat × Nat)) M p.2 := by
  unfold fX11_walk at h
  obtain ⟨M1, hM1, h⟩ := sp_do_e h
  refine sp_fr.tr (sp_fr_I (Or.inr (by first | decide | simp)) hM1) ?_
  obtain ⟨x2, hx2, h⟩ := Option.bind_eq_some_iff.mp h
  refine sp_fr.tr (sp_fr.mono (by first | decide | simp) (by first | decide | simp) (frX11_walkNow hx2)) ?_
  obtain ⟨x3, hx3, h⟩ := Option.bind_eq_some_iff.mp h
  refine sp_fr.tr (sp_fr.mono (by first | decide | simp) (by first | decide | simp) (frX11_tell hx3)) ?_
  cases h
  exact sp_fr.refl _ _ _
set_option maxRecDepth 100000 in
theorem frX11_passIt_j64 {F : Nat} {kb : Int32 → sp_Mem → Option sp_Mem} {kx : sp_Mem → Option sp_Mem} {p : sp_Mem} (hb : ∀ (a1 : Int32) (M : sp_Mem), kb a1 M = some p → sp_fr [124, 121, 123, 105, 125] ([(103, 34), (103, 38), (103, 39), (103, 40)] : List (Nat × Nat)) M p) (hx : ∀  (M : sp_Mem), kx M = some p → sp_fr [124, 121, 123, 105, 125] ([(103, 34), (103, 38), (103, 39), (103, 40)] : List (Nat × Nat)) M p) (a1 : Int32) (s0 : Int32) (M : sp_Mem) (h : fX11_passIt_j64 F kb kx a1 s0 M = some p) : sp_fr [124, 121, 123, 105, 125] ([(103, 34), (103, 38), (103, 39), (103, 40)] : List (Nat × Nat)) M p := by
  unfold fX11_passIt_j64 at h
  obtain ⟨j10, hj10, h⟩ := Option.bind_eq_some_iff.mp h
  obtain ⟨j11, hj11, h⟩ := Option.bind_eq_some_iff.mp h
  obtain ⟨M12, hM12, h⟩ := sp_do_e h
  refine sp_fr.tr (sp_fr_I (Or.inl (by first | decide | simp)) hM12) ?_
  exact hb _ _ h
set_option maxRecDepth 100000 in
theorem frX11_passIt_l2 {F : Nat} {kx : sp_Mem → Option sp_Mem} {p : sp_Mem} (hx : ∀  (M : sp_Mem), kx M = some p → sp_fr [124, 121, 123, 105, 125] ([(103, 34), (103, 38), (103, 39), (103, 40)] : List (Nat × Nat)) M p) : ∀ (n : Nat) (a1 : Int32) (M : sp_Mem), fX11_passIt_l2 F kx n a1 M = some p → sp_fr [124, 121, 123, 105, 125] ([(103, 34), (103, 38), (103, 39), (103, 40)] : List (Nat × Nat)) M p := by
  intro n
  induction n with
  | zero =>
    intro a1 M h
    rw [fX11_passIt_l2] at h
    cases h
  | succ n ih =>
    intro a1 M h
    rw [fX11_passIt_l2] at h
    by_cases hc1 : (sp_I M 105 0) ≤ a1
    · have h := (if_pos hc1).symm.trans h
      exact hx _ h
    · have h := (if_neg hc1).symm.trans h
      obtain ⟨j2, hj2, h⟩ := Option.bind_eq_some_iff.mp h
      obtain ⟨M3, hM3, h⟩ := sp_do_e h
      refine sp_fr.tr (sp_fr_I (Or.inl (by first | decide | simp)) hM3) ?_
      obtain ⟨v4, hv4, h⟩ := Option.bind_eq_some_iff.mp h
      by_cases hc5 : v4 = 0
      · have h := (if_pos hc5).symm.trans h
        exact ih _ _ h
      · have h := (if_neg hc5).symm.trans h
        obtain ⟨j6, hj6, h⟩ := Option.bind_eq_some_iff.mp h
        obtain ⟨x7, hx7, h⟩ := Option.bind_eq_some_iff.mp h
        refine sp_fr.tr (sp_fr.mono (by first | decide | simp) (by first | decide | simp) (frX11_goesOf hx7)) ?_
        obtain ⟨v8, hv8, h⟩ := Option.bind_eq_some_iff.mp h
        by_cases hc9 : v8 = (-1)
        · have h := (if_pos hc9).symm.trans h
          exact frX11_passIt_j64 ih hx _ _ _ h
        · have h := (if_neg hc9).symm.trans h
          obtain ⟨x13, hx13, h⟩ := Option.bind_eq_some_iff.mp h
          refine sp_fr.tr (sp_fr.mono (by first | decide | simp) (by first | decide | simp) (frX11_isBarred hx13)) ?_
          by_cases hc14 : x13.1 = 0
          · have h := (if_pos hc14).symm.trans h
            obtain ⟨j15, hj15, h⟩ := Option.bind_eq_some_iff.mp h
            obtain ⟨M16, hM16, h⟩ := sp_do_e h
            refine sp_fr.tr (sp_fr_I (Or.inl (by first | decide | simp)) hM16) ?_
            exact ih _ _ h
          · have h := (if_neg hc14).symm.trans h
            exact frX11_passIt_j64 ih hx _ _ _ h
set_option maxRecDepth 100000 in
theorem frX11_passIt_l86 {F : Nat} {kx : sp_Mem → Option sp_Mem} {p : sp_Mem} (hx : ∀  (M : sp_Mem), kx M = some p → sp_fr [124, 121, 123, 105, 125] ([(103, 34), (103, 38), (103, 39), (103, 40)] : List (Nat × Nat)) M p) : ∀ (n : Nat) (a1 : Int32) (M : sp_Mem), fX11_passIt_l86 F kx n a1 M = some p → sp_fr [124, 121, 123, 105, 125] ([(103, 34), (103, 38), (103, 39), (103, 40)] : List (Nat × Nat)) M p := by
  intro n
  induction n with
  | zero =>
    intro a1 M h
    rw [fX11_passIt_l86] at h
    cases h
  | succ n ih =>
    intro a1 M h
    rw [fX11_passIt_l86] at h
    by_cases hc18 : (sp_I M 105 0) ≤ a1
    · have h := (if_pos hc18).symm.trans h
      exact hx _ h
    · have h := (if_neg hc18).symm.trans h
      obtain ⟨j19, hj19, h⟩ := Option.bind_eq_some_iff.mp h
      obtain ⟨j20, hj20, h⟩ := Option.bind_eq_some_iff.mp h
      obtain ⟨M21, hM21, h⟩ := sp_do_e h
      refine sp_fr.tr (sp_fr_I (Or.inl (by first | decide | simp)) hM21) ?_
      exact ih _ _ h
set_option maxRecDepth 100000 in
theorem frX11_passIt_l119 {F : Nat} {kx : sp_Mem → Option sp_Mem} {p : sp_Mem} (hx : ∀  (M : sp_Mem), kx M = some p → sp_fr [124, 121, 123, 105, 125] ([(103, 34), (103, 38), (103, 39), (103, 40)] : List (Nat × Nat)) M p) : ∀ (n : Nat) (a1 : Int32) (M : sp_Mem), fX11_passIt_l119 F kx n a1 M = some p → sp_fr [124, 121, 123, 105, 125] ([(103, 34), (103, 38), (103, 39), (103, 40)] : List (Nat × Nat)) M p := by
  intro n
  induction n with
  | zero =>
    intro a1 M h
    rw [fX11_passIt_l119] at h
    cases h
  | succ n ih =>
    intro a1 M h
    rw [fX11_passIt_l119] at h
    by_cases hc23 : (sp_I M 105 0) ≤ a1
    · have h := (if_pos hc23).symm.trans h
      exact hx _ h
    · have h := (if_neg hc23).symm.trans h
      obtain ⟨v24, hv24, h⟩ := Option.bind_eq_some_iff.mp h
      by_cases hc25 : v24 = 0
      · have h := (if_pos hc25).symm.trans h
        obtain ⟨j26, hj26, h⟩ := Option.bind_eq_some_iff.mp h
        obtain ⟨M27, hM27, h⟩ := sp_do_e h
        refine sp_fr.tr (sp_fr_I (Or.inl (by first | decide | simp)) hM27) ?_
        exact ih _ _ h
      · have h := (if_neg hc25).symm.trans h
        obtain ⟨x28, hx28, h⟩ := Option.bind_eq_some_iff.mp h
        refine sp_fr.tr (sp_fr.mono (by first | decide | simp) (by first | decide | simp) (frX11_burnsOf hx28)) ?_
        obtain ⟨j29, hj29, h⟩ := Option.bind_eq_some_iff.mp h
        obtain ⟨M30, hM30, h⟩ := sp_do_e h
        refine sp_fr.tr (sp_fr_I (Or.inl (by first | decide | simp)) hM30) ?_
        exact ih _ _ h
set_option maxRecDepth 100000 in
theorem frX11_passIt_l160 {F : Nat} {kx : sp_Mem → Option sp_Mem} {p : sp_Mem} (hx : ∀  (M : sp_Mem), kx M = some p → sp_fr [124, 121, 123, 105, 125] ([(103, 34), (103, 38), (103, 39), (103, 40)] : List (Nat × Nat)) M p) : ∀ (n : Nat) (a1 : Int32) (M : sp_Mem), fX11_passIt_l160 F kx n a1 M = some p → sp_fr [124, 121, 123, 105, 125] ([(103, 34), (103, 38), (103, 39), (103, 40)] : List (Nat × Nat)) M p := by
  intro n
  induction n with
  | zero =>
    intro a1 M h
    rw [fX11_passIt_l160] at h
    cases h
  | succ n ih =>
    intro a1 M h
    rw [fX11_passIt_l160] at h
    by_cases hc32 : (sp_I M 105 0) ≤ a1
    · have h := (if_pos hc32).symm.trans h
      exact hx _ h
    · have h := (if_neg hc32).symm.trans h
      obtain ⟨j33, hj33, h⟩ := Option.bind_eq_some_iff.mp h
      obtain ⟨j34, hj34, h⟩ := Option.bind_eq_some_iff.mp h
      obtain ⟨j35, hj35, h⟩ := Option.bind_eq_some_iff.mp h
      obtain ⟨M36, hM36, h⟩ := sp_do_e h
      refine sp_fr.tr (sp_fr_I (Or.inl (by first | decide | simp)) hM36) ?_
      obtain ⟨j37, hj37, h⟩ := Option.bind_eq_some_iff.mp h
      by_cases hc38 : (sp_I M36 105 j37) = 0
      · have h := (if_pos hc38).symm.trans h
        obtain ⟨M39, hM39, h⟩ := Option.bind_eq_some_iff.mp h
        refine sp_fr.tr (sp_fr.mono (by first | decide | simp) (by first | decide | simp) (frX11_endSpark hM39)) ?_
        exact ih _ _ h
      · have h := (if_neg hc38).symm.trans h
        exact ih _ _ h
set_option maxRecDepth 100000 in
theorem frX11_passIt {F : Nat} {p : sp_Mem} {M : sp_Mem} (h : fX11_passIt F M = some p) : sp_fr [124, 121, 123, 105, 125] ([(103, 34), (103, 38), (103, 39), (103, 40)] : List (Nat × Nat)) M p := by
  unfold fX11_passIt at h
  refine frX11_passIt_l2 (fun M17 h => ?_) F _ _ h
  refine frX11_passIt_l86 (fun M22 h => ?_) F _ _ h
  refine frX11_passIt_l119 (fun M31 h => ?_) F _ _ h
  refine frX11_passIt_l160 (fun M40 h => ?_) F _ _ h
  obtain ⟨M41, hM41, h⟩ := sp_do_e h
  refine sp_fr.tr (sp_fr_I (Or.inl (by first | decide | simp)) hM41) ?_
  cases h
  exact sp_fr.refl _ _ _
set_option maxRecDepth 100000 in
theorem frX11_passNow {F : Nat} {p : (Int32 × sp_Mem)} {M : sp_Mem} (h : fX11_passNow F M = some p) : sp_fr [108, 109, 124, 121, 123, 105, 125] ([(103, 8), (103, 34), (103, 38), (103, 39), (103, 40)] : List (Nat × Nat)) M p.2 := by
  unfold fX11_passNow at h
  by_cases hc1 : (sp_I M 105 5) = 999
  · have h := (if_pos hc1).symm.trans h
    cases h
    exact sp_fr.refl _ _ _
  · have h := (if_neg hc1).symm.trans h
    obtain ⟨M2, hM2, h⟩ := Option.bind_eq_some_iff.mp h
    refine sp_fr.tr (sp_fr.mono (by first | decide | simp) (by first | decide | simp) (frX11_remember hM2)) ?_
    obtain ⟨M3, hM3, h⟩ := Option.bind_eq_some_iff.mp h
    refine sp_fr.tr (sp_fr.mono (by first | decide | simp) (by first | decide | simp) (frX11_passIt hM3)) ?_
    cases h
    exact sp_fr.refl _ _ _
set_option maxRecDepth 100000 in
theorem frX11_pass {F : Nat} {p : (Int32 × sp_Mem)} {M : sp_Mem} (h : fX11_pass F M = some p) : sp_fr [108, 109, 124, 121, 123, 105, 125, 104] ([(103, 0), (103, 8), (103, 34), (103, 38), (103, 39), (103, 40), (103, 1)] : List (Nat × Nat)) M p.2 := by
  unfold fX11_pass at h
  obtain ⟨M1, hM1, h⟩ := sp_do_e h
  refine sp_fr.tr (sp_fr_I (Or.inr (by first | decide | simp)) hM1) ?_
  obtain ⟨x2, hx2, h⟩ := Option.bind_eq_some_iff.mp h
  refine sp_fr.tr (sp_fr.mono (by first | decide | simp) (by first | decide | simp) (frX11_passNow hx2)) ?_
  obtain ⟨x3, hx3, h⟩ := Option.bind_eq_some_iff.mp h
  refine sp_fr.tr (sp_fr.mono (by first | decide | simp) (by first | decide | simp) (frX11_tell hx3)) ?_
  cases h
  exact sp_fr.refl _ _ _
set_option maxRecDepth 100000 in
theorem frX11_where_l36 {F : Nat} {kx : Int32 → sp_Mem → Option (Int32 × sp_Mem)} {p : (Int32 × sp_Mem)} (hx : ∀ (a1 : Int32) (M : sp_Mem), kx a1 M = some p → sp_fr [108, 124, 121, 123, 105, 125] ([(103, 0), (103, 34), (103, 38), (103, 39), (103, 40)] : List (Nat × Nat)) M p.2) : ∀ (n : Nat) (a1 : Int32) (a2 : Int32) (a3 : Int32) (M : sp_Mem), fX11_where_l36 F kx n a1 a2 a3 M = some p → sp_fr [108, 124, 121, 123, 105, 125] ([(103, 0), (103, 34), (103, 38), (103, 39), (103, 40)] : List (Nat × Nat)) M p.2 := by
  intro n
  induction n with
  | zero =>
    intro a1 a2 a3 M h
    rw [fX11_where_l36] at h
    cases h
  | succ n ih =>
    intro a1 a2 a3 M h
    rw [fX11_where_l36] at h
    by_cases hc6 : a2 ≤ a3
    · have h := (if_pos hc6).symm.trans h
      exact hx _ _ h
    · have h := (if_neg hc6).symm.trans h
      obtain ⟨M7, hM7, h⟩ := Option.bind_eq_some_iff.mp h
      refine sp_fr.tr (sp_fr.mono (by first | decide | simp) (by first | decide | simp) (frX11_passIt hM7)) ?_
      exact ih _ _ _ _ h
set_option maxRecDepth 100000 in
theorem frX11_where {F : Nat} {p : (Int32 × sp_Mem)} {M : sp_Mem} {a1 : Int32} {a2 : Int32} (h : fX11_where F M a1 a2 = some p) : sp_fr [108, 124, 121, 123, 105, 125] ([(103, 0), (103, 34), (103, 38), (103, 39), (103, 40)] : List (Nat × Nat)) M p.2 := by
  unfold fX11_where at h
  obtain ⟨M1, hM1, h⟩ := sp_do_e h
  refine sp_fr.tr (sp_fr_I (Or.inr (by first | decide | simp)) hM1) ?_
  obtain ⟨v2, hv2, h⟩ := Option.bind_eq_some_iff.mp h
  by_cases hc3 : v2 = 0
  · have h := (if_pos hc3).symm.trans h
    cases h
    exact sp_fr.refl _ _ _
  · have h := (if_neg hc3).symm.trans h
    by_cases hc4 : (fX11_in (Int32.toInt64 a2) 0 60) = 0
    · have h := (if_pos hc4).symm.trans h
      cases h
      exact sp_fr.refl _ _ _
    · have h := (if_neg hc4).symm.trans h
      obtain ⟨M5, hM5, h⟩ := Option.bind_eq_some_iff.mp h
      refine sp_fr.tr (sp_fr.mono (by first | decide | simp) (by first | decide | simp) (frX11_keepAll hM5)) ?_
      refine frX11_where_l36 (fun b9 M8 h => ?_) F _ _ _ _ h
      obtain ⟨j10, hj10, h⟩ := Option.bind_eq_some_iff.mp h
      obtain ⟨u11, hu11, h⟩ := sp_do_e h
      obtain ⟨M12, hM12, h⟩ := Option.bind_eq_some_iff.mp h
      refine sp_fr.tr (sp_fr.mono (by first | decide | simp) (by first | decide | simp) (frX11_putBack hM12)) ?_
      cases h
      exact sp_fr.refl _ _ _
set_option maxRecDepth 100000 in
theorem frX11_first_l32 {F : Nat} {kx : Int32 → Int32 → Int32 → sp_Mem → Option (Int32 × sp_Mem)} {p : (Int32 × sp_Mem)} (hx : ∀ (a1 : Int32) (a2 : Int32) (a3 : Int32) (M : sp_Mem), kx a1 a2 a3 M = some p → sp_fr [108, 124, 121, 123, 105, 125] ([(103, 0), (103, 34), (103, 38), (103, 39), (103, 40)] : List (Nat × Nat)) M p.2) : ∀ (n : Nat) (a1 : Int32) (a2 : Int32) (a3 : Int32) (M : sp_Mem), fX11_first_l32 F kx n a1 a2 a3 M = some p → sp_fr [108, 124, 121, 123, 105, 125] ([(103, 0), (103, 34), (103, 38), (103, 39), (103, 40)] : List (Nat × Nat)) M p.2 := by
  intro n
  induction n with
  | zero =>
    intro a1 a2 a3 M h
    rw [fX11_first_l32] at h
    cases h
  | succ n ih =>
    intro a1 a2 a3 M h
    rw [fX11_first_l32] at h
    by_cases hc5 : 61 ≤ a3
    · have h := (if_pos hc5).symm.trans h
      exact hx _ _ _ _ h
    · have h := (if_neg hc5).symm.trans h
      obtain ⟨v6, hv6, h⟩ := Option.bind_eq_some_iff.mp h
      by_cases hc7 : v6 = (-1)
      · have h := (if_pos hc7).symm.trans h
        obtain ⟨M8, hM8, h⟩ := Option.bind_eq_some_iff.mp h
        refine sp_fr.tr (sp_fr.mono (by first | decide | simp) (by first | decide | simp) (frX11_passIt hM8)) ?_
        exact ih _ _ _ _ h
      · have h := (if_neg hc7).symm.trans h
        exact hx _ _ _ _ h
set_option maxRecDepth 100000 in
theorem frX11_first_j57 {F : Nat} {p : (Int32 × sp_Mem)} (a1 : Int32) (a2 : Int32) (a3 : Int32) (M : sp_Mem) (h : fX11_first_j57 F a1 a2 a3 M = some p) : sp_fr [108, 124, 121, 123, 105, 125] ([(103, 0), (103, 34), (103, 38), (103, 39), (103, 40)] : List (Nat × Nat)) M p.2 := by
  unfold fX11_first_j57 at h
  by_cases hc13 : a3 ≤ 60
  · have h := (if_pos hc13).symm.trans h
    by_cases hc14 : a2 = 0
    · have h := (if_pos hc14).symm.trans h
      obtain ⟨M17, hM17, h⟩ := Option.bind_eq_some_iff.mp h
      refine sp_fr.tr (sp_fr.mono (by first | decide | simp) (by first | decide | simp) (frX11_putBack hM17)) ?_
      cases h
      exact sp_fr.refl _ _ _
    · have h := (if_neg hc14).symm.trans h
      obtain ⟨v15, hv15, h⟩ := Option.bind_eq_some_iff.mp h
      obtain ⟨M16, hM16, h⟩ := Option.bind_eq_some_iff.mp h
      refine sp_fr.tr (sp_fr.mono (by first | decide | simp) (by first | decide | simp) (frX11_putBack hM16)) ?_
      cases h
      exact sp_fr.refl _ _ _
  · have h := (if_neg hc13).symm.trans h
    obtain ⟨M18, hM18, h⟩ := Option.bind_eq_some_iff.mp h
    refine sp_fr.tr (sp_fr.mono (by first | decide | simp) (by first | decide | simp) (frX11_putBack hM18)) ?_
    cases h
    exact sp_fr.refl _ _ _
set_option maxRecDepth 100000 in
theorem frX11_first {F : Nat} {p : (Int32 × sp_Mem)} {M : sp_Mem} {a1 : Int32} {a2 : Int32} (h : fX11_first F M a1 a2 = some p) : sp_fr [108, 124, 121, 123, 105, 125] ([(103, 0), (103, 34), (103, 38), (103, 39), (103, 40)] : List (Nat × Nat)) M p.2 := by
  unfold fX11_first at h
  obtain ⟨M1, hM1, h⟩ := sp_do_e h
  refine sp_fr.tr (sp_fr_I (Or.inr (by first | decide | simp)) hM1) ?_
  by_cases hc2 : (fX11_isCell a1) = 0
  · have h := (if_pos hc2).symm.trans h
    cases h
    exact sp_fr.refl _ _ _
  · have h := (if_neg hc2).symm.trans h
    by_cases hc3 : (fX11_in (Int32.toInt64 a2) 0 1) = 0
    · have h := (if_pos hc3).symm.trans h
      cases h
      exact sp_fr.refl _ _ _
    · have h := (if_neg hc3).symm.trans h
      obtain ⟨M4, hM4, h⟩ := Option.bind_eq_some_iff.mp h
      refine sp_fr.tr (sp_fr.mono (by first | decide | simp) (by first | decide | simp) (frX11_keepAll hM4)) ?_
      refine frX11_first_l32 (fun b10 b11 b12 M9 h => ?_) F _ _ _ _ h
      exact frX11_first_j57 _ _ _ _ h
set_option maxRecDepth 100000 in
theorem frX11_layChain_l2 {F : Nat} {kx : Int32 → sp_Mem → Option sp_Mem} {p : sp_Mem} (hx : ∀ (a1 : Int32) (M : sp_Mem), kx a1 M = some p → sp_fr [126, 121, 123] ([(103, 34), (103, 38), (103, 39), (103, 40)] : List (Nat × Nat)) M p) : ∀ (n : Nat) (a1 : Int32) (a2 : Int32) (M : sp_Mem), fX11_layChain_l2 F kx n a1 a2 M = some p → sp_fr [126, 121, 123] ([(103, 34), (103, 38), (103, 39), (103, 40)] : List (Nat × Nat)) M p := by
  intro n
  induction n with
  | zero =>
    intro a1 a2 M h
    rw [fX11_layChain_l2] at h
    cases h
  | succ n ih =>
    intro a1 a2 M h
    rw [fX11_layChain_l2] at h
    by_cases hc1 : 6 ≤ a2
    · have h := (if_pos hc1).symm.trans h
      exact hx _ _ h
    · have h := (if_neg hc1).symm.trans h
      obtain ⟨j2, hj2, h⟩ := Option.bind_eq_some_iff.mp h
      obtain ⟨M3, hM3, h⟩ := sp_do_e h
      refine sp_fr.tr (sp_fr_I (Or.inl (by first | decide | simp)) hM3) ?_
      exact ih _ _ _ h
set_option maxRecDepth 100000 in
theorem frX11_layChain_j68 {F : Nat} {kb : Int32 → Int32 → Int32 → Int32 → sp_Mem → Option sp_Mem} {kx : Int32 → Int32 → Int32 → sp_Mem → Option sp_Mem} {p : sp_Mem} (hb : ∀ (a1 : Int32) (a2 : Int32) (a3 : Int32) (a4 : Int32) (M : sp_Mem), kb a1 a2 a3 a4 M = some p → sp_fr [126, 121, 123] ([(103, 34), (103, 38), (103, 39), (103, 40)] : List (Nat × Nat)) M p) (hx : ∀ (a1 : Int32) (a2 : Int32) (a3 : Int32) (M : sp_Mem), kx a1 a2 a3 M = some p → sp_fr [126, 121, 123] ([(103, 34), (103, 38), (103, 39), (103, 40)] : List (Nat × Nat)) M p) (a1 : Int32) (a2 : Int32) (a3 : Int32) (a4 : Int32) (M : sp_Mem) (h : fX11_layChain_j68 F kb kx a1 a2 a3 a4 M = some p) : sp_fr [126, 121, 123] ([(103, 34), (103, 38), (103, 39), (103, 40)] : List (Nat × Nat)) M p := by
  unfold fX11_layChain_j68 at h
  obtain ⟨v10, hv10, h⟩ := Option.bind_eq_some_iff.mp h
  obtain ⟨x11, hx11, h⟩ := Option.bind_eq_some_iff.mp h
  refine sp_fr.tr (sp_fr.mono (by first | decide | simp) (by first | decide | simp) (frX11_comes hx11)) ?_
  by_cases hc12 : x11.1 = 0
  · have h := (if_pos hc12).symm.trans h
    exact hb _ _ _ _ _ h
  · have h := (if_neg hc12).symm.trans h
    obtain ⟨v13, hv13, h⟩ := Option.bind_eq_some_iff.mp h
    obtain ⟨j14, hj14, h⟩ := Option.bind_eq_some_iff.mp h
    by_cases hc15 : (sp_I x11.2 126 j14) ≤ v13
    · have h := (if_pos hc15).symm.trans h
      exact hb _ _ _ _ _ h
    · have h := (if_neg hc15).symm.trans h
      obtain ⟨v16, hv16, h⟩ := Option.bind_eq_some_iff.mp h
      obtain ⟨j17, hj17, h⟩ := Option.bind_eq_some_iff.mp h
      obtain ⟨M18, hM18, h⟩ := sp_do_e h
      refine sp_fr.tr (sp_fr_I (Or.inl (by first | decide | simp)) hM18) ?_
      exact hb _ _ _ _ _ h
set_option maxRecDepth 100000 in
theorem frX11_layChain_l42 {F : Nat} {kx : Int32 → Int32 → Int32 → sp_Mem → Option sp_Mem} {p : sp_Mem} (hx : ∀ (a1 : Int32) (a2 : Int32) (a3 : Int32) (M : sp_Mem), kx a1 a2 a3 M = some p → sp_fr [126, 121, 123] ([(103, 34), (103, 38), (103, 39), (103, 40)] : List (Nat × Nat)) M p) : ∀ (n : Nat) (a1 : Int32) (a2 : Int32) (a3 : Int32) (a4 : Int32) (M : sp_Mem), fX11_layChain_l42 F kx n a1 a2 a3 a4 M = some p → sp_fr [126, 121, 123] ([(103, 34), (103, 38), (103, 39), (103, 40)] : List (Nat × Nat)) M p := by
  intro n
  induction n with
  | zero =>
    intro a1 a2 a3 a4 M h
    rw [fX11_layChain_l42] at h
    cases h
  | succ n ih =>
    intro a1 a2 a3 a4 M h
    rw [fX11_layChain_l42] at h
    by_cases hc8 : (sp_I M 105 1) ≤ a4
    · have h := (if_pos hc8).symm.trans h
      exact hx _ _ _ _ h
    · have h := (if_neg hc8).symm.trans h
      by_cases hc9 : a3 < (sp_I M 105 1)
      · have h := (if_pos hc9).symm.trans h
        exact frX11_layChain_j68 ih hx _ _ _ _ _ h
      · have h := (if_neg hc9).symm.trans h
        by_cases hc19 : a3 = 5
        · have h := (if_pos hc19).symm.trans h
          exact frX11_layChain_j68 ih hx _ _ _ _ _ h
        · have h := (if_neg hc19).symm.trans h
          exact hx _ _ _ _ h
set_option maxRecDepth 100000 in
theorem frX11_layChain_l33 {F : Nat} {kx : Int32 → Int32 → sp_Mem → Option sp_Mem} {p : sp_Mem} (hx : ∀ (a1 : Int32) (a2 : Int32) (M : sp_Mem), kx a1 a2 M = some p → sp_fr [126, 121, 123] ([(103, 34), (103, 38), (103, 39), (103, 40)] : List (Nat × Nat)) M p) : ∀ (n : Nat) (a1 : Int32) (a2 : Int32) (a3 : Int32) (M : sp_Mem), fX11_layChain_l33 F kx n a1 a2 a3 M = some p → sp_fr [126, 121, 123] ([(103, 34), (103, 38), (103, 39), (103, 40)] : List (Nat × Nat)) M p := by
  intro n
  induction n with
  | zero =>
    intro a1 a2 a3 M h
    rw [fX11_layChain_l33] at h
    cases h
  | succ n ih =>
    intro a1 a2 a3 M h
    rw [fX11_layChain_l33] at h
    by_cases hc7 : 6 ≤ a3
    · have h := (if_pos hc7).symm.trans h
      exact hx _ _ _ h
    · have h := (if_neg hc7).symm.trans h
      refine frX11_layChain_l42 (fun b21 b22 b23 M20 h => ?_) F _ _ _ _ _ h
      exact ih _ _ _ _ h
set_option maxRecDepth 100000 in
theorem frX11_layChain_l25 {F : Nat} {kx : sp_Mem → Option sp_Mem} {p : sp_Mem} (hx : ∀  (M : sp_Mem), kx M = some p → sp_fr [126, 121, 123] ([(103, 34), (103, 38), (103, 39), (103, 40)] : List (Nat × Nat)) M p) : ∀ (n : Nat) (a1 : Int32) (a2 : Int32) (M : sp_Mem), fX11_layChain_l25 F kx n a1 a2 M = some p → sp_fr [126, 121, 123] ([(103, 34), (103, 38), (103, 39), (103, 40)] : List (Nat × Nat)) M p := by
  intro n
  induction n with
  | zero =>
    intro a1 a2 M h
    rw [fX11_layChain_l25] at h
    cases h
  | succ n ih =>
    intro a1 a2 M h
    rw [fX11_layChain_l25] at h
    by_cases hc6 : 6 ≤ a2
    · have h := (if_pos hc6).symm.trans h
      exact hx _ h
    · have h := (if_neg hc6).symm.trans h
      refine frX11_layChain_l33 (fun b25 b26 M24 h => ?_) F _ _ _ _ h
      exact ih _ _ _ h
set_option maxRecDepth 100000 in
theorem frX11_layChain {F : Nat} {p : sp_Mem} {M : sp_Mem} {a1 : Int32} (h : fX11_layChain F M a1 = some p) : sp_fr [126, 121, 123] ([(103, 34), (103, 38), (103, 39), (103, 40)] : List (Nat × Nat)) M p := by
  unfold fX11_layChain at h
  refine frX11_layChain_l2 (fun b5 M4 h => ?_) F _ _ _ h
  refine frX11_layChain_l25 (fun M27 h => ?_) F _ _ _ h
  cases h
  exact sp_fr.refl _ _ _
set_option maxRecDepth 100000 in
theorem frX11_nextCaller_l2 {F : Nat} {kx : Int32 → sp_Mem → Option (Int32 × sp_Mem)} {p : (Int32 × sp_Mem)} (hx : ∀ (a3 : Int32) (M : sp_Mem), kx a3 M = some p → sp_fr [121, 123] ([(103, 34), (103, 38), (103, 39), (103, 40)] : List (Nat × Nat)) M p.2) : ∀ (n : Nat) (a1 : Int32) (a2 : Int32) (a3 : Int32) (M : sp_Mem), fX11_nextCaller_l2 F kx n a1 a2 a3 M = some p → sp_fr [121, 123] ([(103, 34), (103, 38), (103, 39), (103, 40)] : List (Nat × Nat)) M p.2 := by
  intro n
  induction n with
  | zero =>
    intro a1 a2 a3 M h
    rw [fX11_nextCaller_l2] at h
    cases h
  | succ n ih =>
    intro a1 a2 a3 M h
    rw [fX11_nextCaller_l2] at h
    obtain ⟨v1, hv1, h⟩ := Option.bind_eq_some_iff.mp h
    obtain ⟨x2, hx2, h⟩ := Option.bind_eq_some_iff.mp h
    refine sp_fr.tr (sp_fr.mono (by first | decide | simp) (by first | decide | simp) (frX11_comes hx2)) ?_
    by_cases hc3 : x2.1 = 0
    · have h := (if_pos hc3).symm.trans h
      exact ih _ _ _ _ h
    · have h := (if_neg hc3).symm.trans h
      obtain ⟨v4, hv4, h⟩ := Option.bind_eq_some_iff.mp h
      obtain ⟨j5, hj5, h⟩ := Option.bind_eq_some_iff.mp h
      by_cases hc6 : v4 = (sp_I x2.2 126 j5)
      · have h := (if_pos hc6).symm.trans h
        exact hx _ _ h
      · have h := (if_neg hc6).symm.trans h
        exact ih _ _ _ _ h
set_option maxRecDepth 100000 in
theorem frX11_nextCaller {F : Nat} {p : (Int32 × sp_Mem)} {M : sp_Mem} {a1 : Int32} {a2 : Int32} (h : fX11_nextCaller F M a1 a2 = some p) : sp_fr [121, 123] ([(103, 34), (103, 38), (103, 39), (103, 40)] : List (Nat × Nat)) M p.2 := by
  unfold fX11_nextCaller at h
  refine frX11_nextCaller_l2 (fun b8 M7 h => ?_) F _ _ _ _ h
  cases h
  exact sp_fr.refl _ _ _
set_option maxRecDepth 100000 in
theorem frX11_chain_l60 {F : Nat} {kx : Int32 → Int32 → Int32 → sp_Mem → Option (Int32 × sp_Mem)} {p : (Int32 × sp_Mem)} (hx : ∀ (a2 : Int32) (a3 : Int32) (a4 : Int32) (M : sp_Mem), kx a2 a3 a4 M = some p → sp_fr [126, 121, 123] ([(103, 0), (103, 34), (103, 38), (103, 39), (103, 40)] : List (Nat × Nat)) M p.2) : ∀ (n : Nat) (a1 : Int32) (a2 : Int32) (a3 : Int32) (a4 : Int32) (a5 : Int32) (M : sp_Mem), fX11_chain_l60 F kx n a1 a2 a3 a4 a5 M = some p → sp_fr [126, 121, 123] ([(103, 0), (103, 34), (103, 38), (103, 39), (103, 40)] : List (Nat × Nat)) M p.2 := by
  intro n
  induction n with
  | zero =>
    intro a1 a2 a3 a4 a5 M h
    rw [fX11_chain_l60] at h
    cases h
  | succ n ih =>
    intro a1 a2 a3 a4 a5 M h
    rw [fX11_chain_l60] at h
    by_cases hc11 : a2 < a5
    · have h := (if_pos hc11).symm.trans h
      exact hx _ _ _ _ h
    · have h := (if_neg hc11).symm.trans h
      obtain ⟨x12, hx12, h⟩ := Option.bind_eq_some_iff.mp h
      refine sp_fr.tr (sp_fr.mono (by first | decide | simp) (by first | decide | simp) (frX11_nextCaller hx12)) ?_
      exact ih _ _ _ _ _ _ h
set_option maxRecDepth 100000 in
theorem frX11_chain {F : Nat} {p : (Int32 × sp_Mem)} {M : sp_Mem} {a1 : Int32} {a2 : Int32} (h : fX11_chain F M a1 a2 = some p) : sp_fr [126, 121, 123] ([(103, 0), (103, 34), (103, 38), (103, 39), (103, 40)] : List (Nat × Nat)) M p.2 := by
  unfold fX11_chain at h
  obtain ⟨M1, hM1, h⟩ := sp_do_e h
  refine sp_fr.tr (sp_fr_I (Or.inr (by first | decide | simp)) hM1) ?_
  obtain ⟨v2, hv2, h⟩ := Option.bind_eq_some_iff.mp h
  by_cases hc3 : v2 = 0
  · have h := (if_pos hc3).symm.trans h
    cases h
    exact sp_fr.refl _ _ _
  · have h := (if_neg hc3).symm.trans h
    by_cases hc4 : a2 < (-1)
    · have h := (if_pos hc4).symm.trans h
      cases h
      exact sp_fr.refl _ _ _
    · have h := (if_neg hc4).symm.trans h
      obtain ⟨v5, hv5, h⟩ := Option.bind_eq_some_iff.mp h
      by_cases hc6 : v5 = 0
      · have h := (if_pos hc6).symm.trans h
        cases h
        exact sp_fr.refl _ _ _
      · have h := (if_neg hc6).symm.trans h
        obtain ⟨M7, hM7, h⟩ := Option.bind_eq_some_iff.mp h
        refine sp_fr.tr (sp_fr.mono (by first | decide | simp) (by first | decide | simp) (frX11_layChain hM7)) ?_
        obtain ⟨u8, hu8, h⟩ := sp_do_e h
        by_cases hc9 : 100000000 ≤ u8
        · have h := (if_pos hc9).symm.trans h
          cases h
          exact sp_fr.refl _ _ _
        · have h := (if_neg hc9).symm.trans h
          by_cases hc10 : a2 < u8
          · have h := (if_pos hc10).symm.trans h
            refine frX11_chain_l60 (fun b14 b15 b16 M13 h => ?_) F _ _ _ _ _ _ h
            cases h
            exact sp_fr.refl _ _ _
          · have h := (if_neg hc10).symm.trans h
            cases h
            exact sp_fr.refl _ _ _
set_option maxRecDepth 100000 in
theorem frX11_answer {p : (Int32 × sp_Mem)} {M : sp_Mem} {a1 : Int32} {a2 : Int32} (h : fX11_answer M a1 a2 = some p) : sp_fr [105, 104] ([(103, 0), (103, 1)] : List (Nat × Nat)) M p.2 := by
  unfold fX11_answer at h
  obtain ⟨M1, hM1, h⟩ := sp_do_e h
  refine sp_fr.tr (sp_fr_I (Or.inr (by first | decide | simp)) hM1) ?_
  by_cases hc2 : (fX11_in (Int32.toInt64 a2) 0 1) = 0
  · have h := (if_pos hc2).symm.trans h
    obtain ⟨x15, hx15, h⟩ := Option.bind_eq_some_iff.mp h
    refine sp_fr.tr (sp_fr.mono (by first | decide | simp) (by first | decide | simp) (frX11_tell hx15)) ?_
    cases h
    exact sp_fr.refl _ _ _
  · have h := (if_neg hc2).symm.trans h
    obtain ⟨v3, hv3, h⟩ := Option.bind_eq_some_iff.mp h
    by_cases hc4 : v3 = 0
    · have h := (if_pos hc4).symm.trans h
      obtain ⟨x14, hx14, h⟩ := Option.bind_eq_some_iff.mp h
      refine sp_fr.tr (sp_fr.mono (by first | decide | simp) (by first | decide | simp) (frX11_tell hx14)) ?_
      cases h
      exact sp_fr.refl _ _ _
    · have h := (if_neg hc4).symm.trans h
      obtain ⟨u5, hu5, h⟩ := sp_do_e h
      by_cases hc6 : u5 = 6
      · have h := (if_pos hc6).symm.trans h
        obtain ⟨x13, hx13, h⟩ := Option.bind_eq_some_iff.mp h
        refine sp_fr.tr (sp_fr.mono (by first | decide | simp) (by first | decide | simp) (frX11_tell hx13)) ?_
        cases h
        exact sp_fr.refl _ _ _
      · have h := (if_neg hc6).symm.trans h
        obtain ⟨j7, hj7, h⟩ := Option.bind_eq_some_iff.mp h
        obtain ⟨M8, hM8, h⟩ := sp_do_e h
        refine sp_fr.tr (sp_fr_I (Or.inl (by first | decide | simp)) hM8) ?_
        obtain ⟨j9, hj9, h⟩ := Option.bind_eq_some_iff.mp h
        obtain ⟨M10, hM10, h⟩ := sp_do_e h
        refine sp_fr.tr (sp_fr_I (Or.inl (by first | decide | simp)) hM10) ?_
        obtain ⟨M11, hM11, h⟩ := sp_do_e h
        refine sp_fr.tr (sp_fr_I (Or.inl (by first | decide | simp)) hM11) ?_
        obtain ⟨x12, hx12, h⟩ := Option.bind_eq_some_iff.mp h
        refine sp_fr.tr (sp_fr.mono (by first | decide | simp) (by first | decide | simp) (frX11_tell hx12)) ?_
        cases h
        exact sp_fr.refl _ _ _
set_option maxRecDepth 100000 in
theorem frX11_forget {p : (Int32 × sp_Mem)} {M : sp_Mem} (h : fX11_forget M = some p) : sp_fr [105] ([(103, 0)] : List (Nat × Nat)) M p.2 := by
  unfold fX11_forget at h
  obtain ⟨M1, hM1, h⟩ := sp_do_e h
  refine sp_fr.tr (sp_fr_I (Or.inr (by first | decide | simp)) hM1) ?_
  obtain ⟨u2, hu2, h⟩ := sp_do_e h
  obtain ⟨M3, hM3, h⟩ := sp_do_e h
  refine sp_fr.tr (sp_fr_I (Or.inl (by first | decide | simp)) hM3) ?_
  cases h
  exact sp_fr.refl _ _ _
set_option maxRecDepth 100000 in
theorem frX11_which {F : Nat} {p : (Int32 × sp_Mem)} {M : sp_Mem} (h : fX11_which F M = some p) : sp_fr [] ([(103, 0)] : List (Nat × Nat)) M p.2 := by
  unfold fX11_which at h
  obtain ⟨M1, hM1, h⟩ := sp_do_e h
  refine sp_fr.tr (sp_fr_I (Or.inr (by first | decide | simp)) hM1) ?_
  obtain ⟨v2, hv2, h⟩ := Option.bind_eq_some_iff.mp h
  cases h
  exact sp_fr.refl _ _ _
set_option maxRecDepth 100000 in
theorem frX11_let_j103 {F : Nat} {kb : Int32 → Int32 → Int32 → Int32 → Int32 → sp_Mem → Option (Int32 × sp_Mem)} {kx : Int32 → Int32 → Int32 → sp_Mem → Option (Int32 × sp_Mem)} {p : (Int32 × sp_Mem)} (hb : ∀ (a1 : Int32) (a2 : Int32) (a3 : Int32) (a4 : Int32) (a5 : Int32) (M : sp_Mem), kb a1 a2 a3 a4 a5 M = some p → sp_fr [] ([(103, 0)] : List (Nat × Nat)) M p.2) (hx : ∀ (a1 : Int32) (a3 : Int32) (a4 : Int32) (M : sp_Mem), kx a1 a3 a4 M = some p → sp_fr [] ([(103, 0)] : List (Nat × Nat)) M p.2) (a1 : Int32) (a2 : Int32) (a3 : Int32) (a5 : Int32) (a7 : Int32) (s0 : Int32) (M : sp_Mem) (h : fX11_let_j103 F kb kx a1 a2 a3 a5 a7 s0 M = some p) : sp_fr [] ([(103, 0)] : List (Nat × Nat)) M p.2 := by
  unfold fX11_let_j103 at h
  obtain ⟨u13, hu13, h⟩ := sp_do_e h
  exact hb _ _ _ _ _ _ h
set_option maxRecDepth 100000 in
theorem frX11_let_j88 {F : Nat} {kb : Int32 → Int32 → Int32 → Int32 → Int32 → sp_Mem → Option (Int32 × sp_Mem)} {kx : Int32 → Int32 → Int32 → sp_Mem → Option (Int32 × sp_Mem)} {p : (Int32 × sp_Mem)} (hb : ∀ (a1 : Int32) (a2 : Int32) (a3 : Int32) (a4 : Int32) (a5 : Int32) (M : sp_Mem), kb a1 a2 a3 a4 a5 M = some p → sp_fr [] ([(103, 0)] : List (Nat × Nat)) M p.2) (hx : ∀ (a1 : Int32) (a3 : Int32) (a4 : Int32) (M : sp_Mem), kx a1 a3 a4 M = some p → sp_fr [] ([(103, 0)] : List (Nat × Nat)) M p.2) (a1 : Int32) (a2 : Int32) (a3 : Int32) (a4 : Int32) (a5 : Int32) (s0 : Int32) (M : sp_Mem) (h : fX11_let_j88 F kb kx a1 a2 a3 a4 a5 s0 M = some p) : sp_fr [] ([(103, 0)] : List (Nat × Nat)) M p.2 := by
  unfold fX11_let_j88 at h
  exact frX11_let_j103 hb hx _ _ _ _ _ _ _ h
set_option maxRecDepth 100000 in
theorem frX11_let_l36 {F : Nat} {kx : Int32 → Int32 → Int32 → sp_Mem → Option (Int32 × sp_Mem)} {p : (Int32 × sp_Mem)} (hx : ∀ (a1 : Int32) (a3 : Int32) (a4 : Int32) (M : sp_Mem), kx a1 a3 a4 M = some p → sp_fr [] ([(103, 0)] : List (Nat × Nat)) M p.2) : ∀ (n : Nat) (a1 : Int32) (a2 : Int32) (a3 : Int32) (a4 : Int32) (a5 : Int32) (M : sp_Mem), fX11_let_l36 F kx n a1 a2 a3 a4 a5 M = some p → sp_fr [] ([(103, 0)] : List (Nat × Nat)) M p.2 := by
  intro n
  induction n with
  | zero =>
    intro a1 a2 a3 a4 a5 M h
    rw [fX11_let_l36] at h
    cases h
  | succ n ih =>
    intro a1 a2 a3 a4 a5 M h
    rw [fX11_let_l36] at h
    by_cases hc5 : (sp_I M 105 1) ≤ a5
    · have h := (if_pos hc5).symm.trans h
      exact hx _ _ _ _ h
    · have h := (if_neg hc5).symm.trans h
      obtain ⟨j6, hj6, h⟩ := Option.bind_eq_some_iff.mp h
      obtain ⟨v7, hv7, h⟩ := Option.bind_eq_some_iff.mp h
      obtain ⟨v8, hv8, h⟩ := Option.bind_eq_some_iff.mp h
      by_cases hc9 : v7 ≤ (v8 - v7)
      · have h := (if_pos hc9).symm.trans h
        obtain ⟨v10, hv10, h⟩ := Option.bind_eq_some_iff.mp h
        exact frX11_let_j88 ih hx _ _ _ _ _ _ _ h
      · have h := (if_neg hc9).symm.trans h
        exact frX11_let_j88 ih hx _ _ _ _ _ _ _ h
set_option maxRecDepth 100000 in
theorem frX11_let {F : Nat} {p : (Int32 × sp_Mem)} {M : sp_Mem} {a1 : Int32} (h : fX11_let F M a1 = some p) : sp_fr [] ([(103, 0)] : List (Nat × Nat)) M p.2 := by
  unfold fX11_let at h
  obtain ⟨M1, hM1, h⟩ := sp_do_e h
  refine sp_fr.tr (sp_fr_I (Or.inr (by first | decide | simp)) hM1) ?_
  obtain ⟨v2, hv2, h⟩ := Option.bind_eq_some_iff.mp h
  by_cases hc3 : (fX11_in (Int32.toInt64 a1) 0 1) = 0
  · have h := (if_pos hc3).symm.trans h
    cases h
    exact sp_fr.refl _ _ _
  · have h := (if_neg hc3).symm.trans h
    by_cases hc4 : v2 = 0
    · have h := (if_pos hc4).symm.trans h
      cases h
      exact sp_fr.refl _ _ _
    · have h := (if_neg hc4).symm.trans h
      refine frX11_let_l36 (fun b15 b16 b17 M14 h => ?_) F _ _ _ _ _ _ h
      cases h
      exact sp_fr.refl _ _ _
set_option maxRecDepth 100000 in
theorem frX11_alike_l29 {F : Nat} {kx : Int32 → Int32 → Int32 → Int32 → sp_Mem → Option (Int32 × sp_Mem)} {p : (Int32 × sp_Mem)} (hx : ∀ (a1 : Int32) (a2 : Int32) (a3 : Int32) (a4 : Int32) (M : sp_Mem), kx a1 a2 a3 a4 M = some p → sp_fr [] ([(103, 0)] : List (Nat × Nat)) M p.2) : ∀ (n : Nat) (a1 : Int32) (a2 : Int32) (a3 : Int32) (a4 : Int32) (a5 : Int32) (M : sp_Mem), fX11_alike_l29 F kx n a1 a2 a3 a4 a5 M = some p → sp_fr [] ([(103, 0)] : List (Nat × Nat)) M p.2 := by
  intro n
  induction n with
  | zero =>
    intro a1 a2 a3 a4 a5 M h
    rw [fX11_alike_l29] at h
    cases h
  | succ n ih =>
    intro a1 a2 a3 a4 a5 M h
    rw [fX11_alike_l29] at h
    by_cases hc3 : (sp_I M 105 0) ≤ a5
    · have h := (if_pos hc3).symm.trans h
      exact hx _ _ _ _ _ h
    · have h := (if_neg hc3).symm.trans h
      obtain ⟨v4, hv4, h⟩ := Option.bind_eq_some_iff.mp h
      by_cases hc5 : v4 = 0
      · have h := (if_pos hc5).symm.trans h
        exact ih _ _ _ _ _ _ h
      · have h := (if_neg hc5).symm.trans h
        by_cases hc6 : a2 = a1
        · have h := (if_pos hc6).symm.trans h
          obtain ⟨u7, hu7, h⟩ := sp_do_e h
          exact ih _ _ _ _ _ _ h
        · have h := (if_neg hc6).symm.trans h
          exact ih _ _ _ _ _ _ h
set_option maxRecDepth 100000 in
theorem frX11_alike_l12 {F : Nat} {kx : Int32 → Int32 → Int32 → sp_Mem → Option (Int32 × sp_Mem)} {p : (Int32 × sp_Mem)} (hx : ∀ (a1 : Int32) (a2 : Int32) (a3 : Int32) (M : sp_Mem), kx a1 a2 a3 M = some p → sp_fr [] ([(103, 0)] : List (Nat × Nat)) M p.2) : ∀ (n : Nat) (a1 : Int32) (a2 : Int32) (a3 : Int32) (a4 : Int32) (M : sp_Mem), fX11_alike_l12 F kx n a1 a2 a3 a4 M = some p → sp_fr [] ([(103, 0)] : List (Nat × Nat)) M p.2 := by
  intro n
  induction n with
  | zero =>
    intro a1 a2 a3 a4 M h
    rw [fX11_alike_l12] at h
    cases h
  | succ n ih =>
    intro a1 a2 a3 a4 M h
    rw [fX11_alike_l12] at h
    by_cases hc2 : (sp_I M 105 0) ≤ a4
    · have h := (if_pos hc2).symm.trans h
      exact hx _ _ _ _ h
    · have h := (if_neg hc2).symm.trans h
      refine frX11_alike_l29 (fun b9 b10 b11 b12 M8 h => ?_) F _ _ _ _ _ _ h
      exact ih _ _ _ _ _ h
set_option maxRecDepth 100000 in
theorem frX11_alike {F : Nat} {p : (Int32 × sp_Mem)} {M : sp_Mem} {a1 : Int32} (h : fX11_alike F M a1 = some p) : sp_fr [] ([(103, 0)] : List (Nat × Nat)) M p.2 := by
  unfold fX11_alike at h
  obtain ⟨M1, hM1, h⟩ := sp_do_e h
  refine sp_fr.tr (sp_fr_I (Or.inr (by first | decide | simp)) hM1) ?_
  refine frX11_alike_l12 (fun b14 b15 b16 M13 h => ?_) F _ _ _ _ _ h
  cases h
  exact sp_fr.refl _ _ _
set_option maxRecDepth 100000 in
theorem frX11_anew_j75 {F : Nat} {kb : Int32 → Int32 → Int32 → Int32 → sp_Mem → Option (Int32 × sp_Mem)} {kx : Int32 → Int32 → Int32 → sp_Mem → Option (Int32 × sp_Mem)} {p : (Int32 × sp_Mem)} (hb : ∀ (a1 : Int32) (a2 : Int32) (a3 : Int32) (a4 : Int32) (M : sp_Mem), kb a1 a2 a3 a4 M = some p → sp_fr [] ([(103, 0)] : List (Nat × Nat)) M p.2) (hx : ∀ (a1 : Int32) (a2 : Int32) (a3 : Int32) (M : sp_Mem), kx a1 a2 a3 M = some p → sp_fr [] ([(103, 0)] : List (Nat × Nat)) M p.2) (a1 : Int32) (a2 : Int32) (a4 : Int32) (a5 : Int32) (s0 : Int32) (M : sp_Mem) (h : fX11_anew_j75 F kb kx a1 a2 a4 a5 s0 M = some p) : sp_fr [] ([(103, 0)] : List (Nat × Nat)) M p.2 := by
  unfold fX11_anew_j75 at h
  by_cases hc7 : a5 = 0
  · have h := (if_pos hc7).symm.trans h
    exact hb _ _ _ _ _ h
  · have h := (if_neg hc7).symm.trans h
    obtain ⟨v8, hv8, h⟩ := Option.bind_eq_some_iff.mp h
    exact hb _ _ _ _ _ h
set_option maxRecDepth 100000 in
theorem frX11_anew_j62 {F : Nat} {kb : Int32 → Int32 → Int32 → Int32 → sp_Mem → Option (Int32 × sp_Mem)} {kx : Int32 → Int32 → Int32 → sp_Mem → Option (Int32 × sp_Mem)} {p : (Int32 × sp_Mem)} (hb : ∀ (a1 : Int32) (a2 : Int32) (a3 : Int32) (a4 : Int32) (M : sp_Mem), kb a1 a2 a3 a4 M = some p → sp_fr [] ([(103, 0)] : List (Nat × Nat)) M p.2) (hx : ∀ (a1 : Int32) (a2 : Int32) (a3 : Int32) (M : sp_Mem), kx a1 a2 a3 M = some p → sp_fr [] ([(103, 0)] : List (Nat × Nat)) M p.2) (a1 : Int32) (a2 : Int32) (a3 : Int32) (a4 : Int32) (s0 : Int32) (M : sp_Mem) (h : fX11_anew_j62 F kb kx a1 a2 a3 a4 s0 M = some p) : sp_fr [] ([(103, 0)] : List (Nat × Nat)) M p.2 := by
  unfold fX11_anew_j62 at h
  exact frX11_anew_j75 hb hx _ _ _ _ _ _ h
set_option maxRecDepth 100000 in
theorem frX11_anew_j61 {F : Nat} {kb : Int32 → Int32 → Int32 → Int32 → sp_Mem → Option (Int32 × sp_Mem)} {kx : Int32 → Int32 → Int32 → sp_Mem → Option (Int32 × sp_Mem)} {p : (Int32 × sp_Mem)} (hb : ∀ (a1 : Int32) (a2 : Int32) (a3 : Int32) (a4 : Int32) (M : sp_Mem), kb a1 a2 a3 a4 M = some p → sp_fr [] ([(103, 0)] : List (Nat × Nat)) M p.2) (hx : ∀ (a1 : Int32) (a2 : Int32) (a3 : Int32) (M : sp_Mem), kx a1 a2 a3 M = some p → sp_fr [] ([(103, 0)] : List (Nat × Nat)) M p.2) (a1 : Int32) (a2 : Int32) (a3 : Int32) (a4 : Int32) (M : sp_Mem) (h : fX11_anew_j61 F kb kx a1 a2 a3 a4 M = some p) : sp_fr [] ([(103, 0)] : List (Nat × Nat)) M p.2 := by
  unfold fX11_anew_j61 at h
  exact frX11_anew_j62 hb hx _ _ _ _ _ _ h
set_option maxRecDepth 100000 in
theorem frX11_anew_l26 {F : Nat} {kx : Int32 → Int32 → Int32 → sp_Mem → Option (Int32 × sp_Mem)} {p : (Int32 × sp_Mem)} (hx : ∀ (a1 : Int32) (a2 : Int32) (a3 : Int32) (M : sp_Mem), kx a1 a2 a3 M = some p → sp_fr [] ([(103, 0)] : List (Nat × Nat)) M p.2) : ∀ (n : Nat) (a1 : Int32) (a2 : Int32) (a3 : Int32) (a4 : Int32) (M : sp_Mem), fX11_anew_l26 F kx n a1 a2 a3 a4 M = some p → sp_fr [] ([(103, 0)] : List (Nat × Nat)) M p.2 := by
  intro n
  induction n with
  | zero =>
    intro a1 a2 a3 a4 M h
    rw [fX11_anew_l26] at h
    cases h
  | succ n ih =>
    intro a1 a2 a3 a4 M h
    rw [fX11_anew_l26] at h
    by_cases hc3 : (1 <<< ((sp_I M 105 0) &&& 31)) ≤ a4
    · have h := (if_pos hc3).symm.trans h
      exact hx _ _ _ _ h
    · have h := (if_neg hc3).symm.trans h
      obtain ⟨v4, hv4, h⟩ := Option.bind_eq_some_iff.mp h
      by_cases hc5 : a2 ≤ v4
      · have h := (if_pos hc5).symm.trans h
        exact frX11_anew_j61 ih hx _ _ _ _ _ h
      · have h := (if_neg hc5).symm.trans h
        obtain ⟨v9, hv9, h⟩ := Option.bind_eq_some_iff.mp h
        exact frX11_anew_j62 ih hx _ _ _ _ _ _ h
set_option maxRecDepth 100000 in
theorem frX11_anew {F : Nat} {p : (Int32 × sp_Mem)} {M : sp_Mem} {a1 : Int32} (h : fX11_anew F M a1 = some p) : sp_fr [] ([(103, 0)] : List (Nat × Nat)) M p.2 := by
  unfold fX11_anew at h
  obtain ⟨M1, hM1, h⟩ := sp_do_e h
  refine sp_fr.tr (sp_fr_I (Or.inr (by first | decide | simp)) hM1) ?_
  by_cases hc2 : (fX11_in (Int32.toInt64 a1) 0 1) = 0
  · have h := (if_pos hc2).symm.trans h
    cases h
    exact sp_fr.refl _ _ _
  · have h := (if_neg hc2).symm.trans h
    refine frX11_anew_l26 (fun b12 b13 b14 M11 h => ?_) F _ _ _ _ _ h
    cases h
    exact sp_fr.refl _ _ _
set_option maxRecDepth 100000 in
theorem frX11_guard_j90 {F : Nat} {kb : Int32 → Int32 → Int32 → Int32 → Int32 → sp_Mem → Option (Int32 × sp_Mem)} {kx : Int32 → Int32 → Int32 → sp_Mem → Option (Int32 × sp_Mem)} {p : (Int32 × sp_Mem)} (hb : ∀ (a1 : Int32) (a2 : Int32) (a3 : Int32) (a4 : Int32) (a5 : Int32) (M : sp_Mem), kb a1 a2 a3 a4 a5 M = some p → sp_fr [] ([(103, 0)] : List (Nat × Nat)) M p.2) (hx : ∀ (a2 : Int32) (a3 : Int32) (a4 : Int32) (M : sp_Mem), kx a2 a3 a4 M = some p → sp_fr [] ([(103, 0)] : List (Nat × Nat)) M p.2) (a1 : Int32) (a2 : Int32) (a3 : Int32) (a5 : Int32) (a6 : Int32) (s0 : Int32) (M : sp_Mem) (h : fX11_guard_j90 F kb kx a1 a2 a3 a5 a6 s0 M = some p) : sp_fr [] ([(103, 0)] : List (Nat × Nat)) M p.2 := by
  unfold fX11_guard_j90 at h
  by_cases hc8 : a6 = 0
  · have h := (if_pos hc8).symm.trans h
    exact hb _ _ _ _ _ _ h
  · have h := (if_neg hc8).symm.trans h
    obtain ⟨v9, hv9, h⟩ := Option.bind_eq_some_iff.mp h
    exact hb _ _ _ _ _ _ h
set_option maxRecDepth 100000 in
theorem frX11_guard_j76 {F : Nat} {kb : Int32 → Int32 → Int32 → Int32 → Int32 → sp_Mem → Option (Int32 × sp_Mem)} {kx : Int32 → Int32 → Int32 → sp_Mem → Option (Int32 × sp_Mem)} {p : (Int32 × sp_Mem)} (hb : ∀ (a1 : Int32) (a2 : Int32) (a3 : Int32) (a4 : Int32) (a5 : Int32) (M : sp_Mem), kb a1 a2 a3 a4 a5 M = some p → sp_fr [] ([(103, 0)] : List (Nat × Nat)) M p.2) (hx : ∀ (a2 : Int32) (a3 : Int32) (a4 : Int32) (M : sp_Mem), kx a2 a3 a4 M = some p → sp_fr [] ([(103, 0)] : List (Nat × Nat)) M p.2) (a1 : Int32) (a2 : Int32) (a3 : Int32) (a4 : Int32) (a5 : Int32) (s0 : Int32) (M : sp_Mem) (h : fX11_guard_j76 F kb kx a1 a2 a3 a4 a5 s0 M = some p) : sp_fr [] ([(103, 0)] : List (Nat × Nat)) M p.2 := by
  unfold fX11_guard_j76 at h
  exact frX11_guard_j90 hb hx _ _ _ _ _ _ _ h
set_option maxRecDepth 100000 in
theorem frX11_guard_j75 {F : Nat} {kb : Int32 → Int32 → Int32 → Int32 → Int32 → sp_Mem → Option (Int32 × sp_Mem)} {kx : Int32 → Int32 → Int32 → sp_Mem → Option (Int32 × sp_Mem)} {p : (Int32 × sp_Mem)} (hb : ∀ (a1 : Int32) (a2 : Int32) (a3 : Int32) (a4 : Int32) (a5 : Int32) (M : sp_Mem), kb a1 a2 a3 a4 a5 M = some p → sp_fr [] ([(103, 0)] : List (Nat × Nat)) M p.2) (hx : ∀ (a2 : Int32) (a3 : Int32) (a4 : Int32) (M : sp_Mem), kx a2 a3 a4 M = some p → sp_fr [] ([(103, 0)] : List (Nat × Nat)) M p.2) (a1 : Int32) (a2 : Int32) (a3 : Int32) (a4 : Int32) (a5 : Int32) (M : sp_Mem) (h : fX11_guard_j75 F kb kx a1 a2 a3 a4 a5 M = some p) : sp_fr [] ([(103, 0)] : List (Nat × Nat)) M p.2 := by
  unfold fX11_guard_j75 at h
  exact frX11_guard_j76 hb hx _ _ _ _ _ _ _ h
set_option maxRecDepth 100000 in
theorem frX11_guard_l39 {F : Nat} {kx : Int32 → Int32 → Int32 → sp_Mem → Option (Int32 × sp_Mem)} {p : (Int32 × sp_Mem)} (hx : ∀ (a2 : Int32) (a3 : Int32) (a4 : Int32) (M : sp_Mem), kx a2 a3 a4 M = some p → sp_fr [] ([(103, 0)] : List (Nat × Nat)) M p.2) : ∀ (n : Nat) (a1 : Int32) (a2 : Int32) (a3 : Int32) (a4 : Int32) (a5 : Int32) (M : sp_Mem), fX11_guard_l39 F kx n a1 a2 a3 a4 a5 M = some p → sp_fr [] ([(103, 0)] : List (Nat × Nat)) M p.2 := by
  intro n
  induction n with
  | zero =>
    intro a1 a2 a3 a4 a5 M h
    rw [fX11_guard_l39] at h
    cases h
  | succ n ih =>
    intro a1 a2 a3 a4 a5 M h
    rw [fX11_guard_l39] at h
    by_cases hc4 : (1 <<< ((sp_I M 105 1) &&& 31)) ≤ a5
    · have h := (if_pos hc4).symm.trans h
      exact hx _ _ _ _ h
    · have h := (if_neg hc4).symm.trans h
      obtain ⟨v5, hv5, h⟩ := Option.bind_eq_some_iff.mp h
      by_cases hc6 : a3 ≤ v5
      · have h := (if_pos hc6).symm.trans h
        exact frX11_guard_j75 ih hx _ _ _ _ _ _ h
      · have h := (if_neg hc6).symm.trans h
        obtain ⟨v10, hv10, h⟩ := Option.bind_eq_some_iff.mp h
        exact frX11_guard_j76 ih hx _ _ _ _ _ _ _ h
set_option maxRecDepth 100000 in
theorem frX11_guard {F : Nat} {p : (Int32 × sp_Mem)} {M : sp_Mem} {a1 : Int32} {a2 : Int32} (h : fX11_guard F M a1 a2 = some p) : sp_fr [] ([(103, 0)] : List (Nat × Nat)) M p.2 := by
  unfold fX11_guard at h
  obtain ⟨M1, hM1, h⟩ := sp_do_e h
  refine sp_fr.tr (sp_fr_I (Or.inr (by first | decide | simp)) hM1) ?_
  by_cases hc2 : (fX11_in (Int32.toInt64 a1) 0 4) = 0
  · have h := (if_pos hc2).symm.trans h
    cases h
    exact sp_fr.refl _ _ _
  · have h := (if_neg hc2).symm.trans h
    by_cases hc3 : (fX11_in (Int32.toInt64 a2) 0 1) = 0
    · have h := (if_pos hc3).symm.trans h
      cases h
      exact sp_fr.refl _ _ _
    · have h := (if_neg hc3).symm.trans h
      refine frX11_guard_l39 (fun b13 b14 b15 M12 h => ?_) F _ _ _ _ _ _ h
      cases h
      exact sp_fr.refl _ _ _
set_option maxRecDepth 100000 in
theorem frX11_lessons_l33 {F : Nat} {kx : Int32 → sp_Mem → Option (Int32 × sp_Mem)} {p : (Int32 × sp_Mem)} (hx : ∀ (a2 : Int32) (M : sp_Mem), kx a2 M = some p → sp_fr [] ([(103, 0)] : List (Nat × Nat)) M p.2) : ∀ (n : Nat) (a1 : Int32) (a2 : Int32) (a3 : Int32) (M : sp_Mem), fX11_lessons_l33 F kx n a1 a2 a3 M = some p → sp_fr [] ([(103, 0)] : List (Nat × Nat)) M p.2 := by
  intro n
  induction n with
  | zero =>
    intro a1 a2 a3 M h
    rw [fX11_lessons_l33] at h
    cases h
  | succ n ih =>
    intro a1 a2 a3 M h
    rw [fX11_lessons_l33] at h
    by_cases hc4 : (sp_I M 105 0) ≤ a3
    · have h := (if_pos hc4).symm.trans h
      exact hx _ _ h
    · have h := (if_neg hc4).symm.trans h
      obtain ⟨v5, hv5, h⟩ := Option.bind_eq_some_iff.mp h
      obtain ⟨v6, hv6, h⟩ := Option.bind_eq_some_iff.mp h
      obtain ⟨u8, hu8, h⟩ := sp_do_e h
      exact ih _ _ _ _ h
set_option maxRecDepth 100000 in
theorem frX11_lessons {F : Nat} {p : (Int32 × sp_Mem)} {M : sp_Mem} {a1 : Int32} (h : fX11_lessons F M a1 = some p) : sp_fr [] ([(103, 0)] : List (Nat × Nat)) M p.2 := by
  unfold fX11_lessons at h
  obtain ⟨M1, hM1, h⟩ := sp_do_e h
  refine sp_fr.tr (sp_fr_I (Or.inr (by first | decide | simp)) hM1) ?_
  by_cases hc2 : (fX11_in (Int32.toInt64 a1) 0 5) = 0
  · have h := (if_pos hc2).symm.trans h
    cases h
    exact sp_fr.refl _ _ _
  · have h := (if_neg hc2).symm.trans h
    by_cases hc3 : a1 ≤ (sp_I M1 105 1)
    · have h := (if_pos hc3).symm.trans h
      refine frX11_lessons_l33 (fun b10 M9 h => ?_) F _ _ _ _ h
      cases h
      exact sp_fr.refl _ _ _
    · have h := (if_neg hc3).symm.trans h
      cases h
      exact sp_fr.refl _ _ _
set_option maxRecDepth 100000 in
theorem frX11_layDrift_l2 {F : Nat} {kx : Int32 → sp_Mem → Option sp_Mem} {p : sp_Mem} (hx : ∀ (a2 : Int32) (M : sp_Mem), kx a2 M = some p → sp_fr [127, 128] ([] : List (Nat × Nat)) M p) : ∀ (n : Nat) (a1 : Int32) (a2 : Int32) (a3 : Int32) (M : sp_Mem), fX11_layDrift_l2 F kx n a1 a2 a3 M = some p → sp_fr [127, 128] ([] : List (Nat × Nat)) M p := by
  intro n
  induction n with
  | zero =>
    intro a1 a2 a3 M h
    rw [fX11_layDrift_l2] at h
    cases h
  | succ n ih =>
    intro a1 a2 a3 M h
    rw [fX11_layDrift_l2] at h
    by_cases hc1 : 25 ≤ a3
    · have h := (if_pos hc1).symm.trans h
      exact hx _ _ h
    · have h := (if_neg hc1).symm.trans h
      obtain ⟨j2, hj2, h⟩ := Option.bind_eq_some_iff.mp h
      by_cases hc3 : a3 = (sp_I M 105 j2)
      · have h := (if_pos hc3).symm.trans h
        obtain ⟨j6, hj6, h⟩ := Option.bind_eq_some_iff.mp h
        obtain ⟨M7, hM7, h⟩ := sp_do_e h
        refine sp_fr.tr (sp_fr_L (Or.inl (by first | decide | simp)) hM7) ?_
        exact ih _ _ _ _ h
      · have h := (if_neg hc3).symm.trans h
        obtain ⟨j4, hj4, h⟩ := Option.bind_eq_some_iff.mp h
        obtain ⟨M5, hM5, h⟩ := sp_do_e h
        refine sp_fr.tr (sp_fr_L (Or.inl (by first | decide | simp)) hM5) ?_
        exact ih _ _ _ _ h
set_option maxRecDepth 100000 in
theorem frX11_layDrift_l60 {F : Nat} {kx : Int32 → Int32 → Int32 → sp_Mem → Option sp_Mem} {p : sp_Mem} (hx : ∀ (a2 : Int32) (a3 : Int32) (a4 : Int32) (M : sp_Mem), kx a2 a3 a4 M = some p → sp_fr [127, 128] ([] : List (Nat × Nat)) M p) : ∀ (n : Nat) (a2 : Int32) (a3 : Int32) (a4 : Int32) (a5 : Int32) (M : sp_Mem), fX11_layDrift_l60 F kx n a2 a3 a4 a5 M = some p → sp_fr [127, 128] ([] : List (Nat × Nat)) M p := by
  intro n
  induction n with
  | zero =>
    intro a2 a3 a4 a5 M h
    rw [fX11_layDrift_l60] at h
    cases h
  | succ n ih =>
    intro a2 a3 a4 a5 M h
    rw [fX11_layDrift_l60] at h
    by_cases hc12 : 25 ≤ a5
    · have h := (if_pos hc12).symm.trans h
      exact hx _ _ _ _ h
    · have h := (if_neg hc12).symm.trans h
      obtain ⟨j13, hj13, h⟩ := Option.bind_eq_some_iff.mp h
      obtain ⟨M14, hM14, h⟩ := sp_do_e h
      refine sp_fr.tr (sp_fr_L (Or.inl (by first | decide | simp)) hM14) ?_
      exact ih _ _ _ _ _ h
set_option maxRecDepth 100000 in
theorem frX11_layDrift_l119 {F : Nat} {kx : Int32 → Int32 → Int32 → Int32 → Int64 → sp_Mem → Option sp_Mem} {p : sp_Mem} (hx : ∀ (a2 : Int32) (a3 : Int32) (a4 : Int32) (a5 : Int32) (a8 : Int64) (M : sp_Mem), kx a2 a3 a4 a5 a8 M = some p → sp_fr [127, 128] ([] : List (Nat × Nat)) M p) : ∀ (n : Nat) (a2 : Int32) (a3 : Int32) (a4 : Int32) (a5 : Int32) (a6 : Int64) (a8 : Int64) (a10 : Int32) (M : sp_Mem), fX11_layDrift_l119 F kx n a2 a3 a4 a5 a6 a8 a10 M = some p → sp_fr [127, 128] ([] : List (Nat × Nat)) M p := by
  intro n
  induction n with
  | zero =>
    intro a2 a3 a4 a5 a6 a8 a10 M h
    rw [fX11_layDrift_l119] at h
    cases h
  | succ n ih =>
    intro a2 a3 a4 a5 a6 a8 a10 M h
    rw [fX11_layDrift_l119] at h
    by_cases hc24 : 5 ≤ a10
    · have h := (if_pos hc24).symm.trans h
      exact hx _ _ _ _ _ _ h
    · have h := (if_neg hc24).symm.trans h
      obtain ⟨v25, hv25, h⟩ := Option.bind_eq_some_iff.mp h
      by_cases hc26 : v25 = (-1)
      · have h := (if_pos hc26).symm.trans h
        exact ih _ _ _ _ _ _ _ _ h
      · have h := (if_neg hc26).symm.trans h
        obtain ⟨j27, hj27, h⟩ := Option.bind_eq_some_iff.mp h
        by_cases hc28 : (sp_I M 105 j27) = 3
        · have h := (if_pos hc28).symm.trans h
          exact ih _ _ _ _ _ _ _ _ h
        · have h := (if_neg hc28).symm.trans h
          obtain ⟨j29, hj29, h⟩ := Option.bind_eq_some_iff.mp h
          obtain ⟨j30, hj30, h⟩ := Option.bind_eq_some_iff.mp h
          obtain ⟨M31, hM31, h⟩ := sp_do_e h
          refine sp_fr.tr (sp_fr_L (Or.inl (by first | decide | simp)) hM31) ?_
          exact ih _ _ _ _ _ _ _ _ h
set_option maxRecDepth 100000 in
theorem frX11_layDrift_l84 {F : Nat} {kx : Int32 → Int32 → Int32 → sp_Mem → Option sp_Mem} {p : sp_Mem} (hx : ∀ (a2 : Int32) (a3 : Int32) (a4 : Int32) (M : sp_Mem), kx a2 a3 a4 M = some p → sp_fr [127, 128] ([] : List (Nat × Nat)) M p) : ∀ (n : Nat) (a2 : Int32) (a3 : Int32) (a4 : Int32) (a5 : Int32) (M : sp_Mem), fX11_layDrift_l84 F kx n a2 a3 a4 a5 M = some p → sp_fr [127, 128] ([] : List (Nat × Nat)) M p := by
  intro n
  induction n with
  | zero =>
    intro a2 a3 a4 a5 M h
    rw [fX11_layDrift_l84] at h
    cases h
  | succ n ih =>
    intro a2 a3 a4 a5 M h
    rw [fX11_layDrift_l84] at h
    by_cases hc19 : 25 ≤ a5
    · have h := (if_pos hc19).symm.trans h
      exact hx _ _ _ _ h
    · have h := (if_neg hc19).symm.trans h
      obtain ⟨j20, hj20, h⟩ := Option.bind_eq_some_iff.mp h
      obtain ⟨u21, hu21, h⟩ := sp_do_e h
      obtain ⟨j22, hj22, h⟩ := Option.bind_eq_some_iff.mp h
      obtain ⟨u23, hu23, h⟩ := sp_do_e h
      refine frX11_layDrift_l119 (fun b33 b34 b35 b36 b37 M32 h => ?_) F _ _ _ _ _ _ _ _ h
      obtain ⟨j38, hj38, h⟩ := Option.bind_eq_some_iff.mp h
      obtain ⟨j39, hj39, h⟩ := Option.bind_eq_some_iff.mp h
      obtain ⟨M40, hM40, h⟩ := sp_do_e h
      refine sp_fr.tr (sp_fr_L (Or.inl (by first | decide | simp)) hM40) ?_
      exact ih _ _ _ _ _ h
set_option maxRecDepth 100000 in
theorem frX11_layDrift_l200 {F : Nat} {kx : Int32 → Int32 → Int32 → sp_Mem → Option sp_Mem} {p : sp_Mem} (hx : ∀ (a2 : Int32) (a3 : Int32) (a4 : Int32) (M : sp_Mem), kx a2 a3 a4 M = some p → sp_fr [127, 128] ([] : List (Nat × Nat)) M p) : ∀ (n : Nat) (a2 : Int32) (a3 : Int32) (a4 : Int32) (a5 : Int32) (M : sp_Mem), fX11_layDrift_l200 F kx n a2 a3 a4 a5 M = some p → sp_fr [127, 128] ([] : List (Nat × Nat)) M p := by
  intro n
  induction n with
  | zero =>
    intro a2 a3 a4 a5 M h
    rw [fX11_layDrift_l200] at h
    cases h
  | succ n ih =>
    intro a2 a3 a4 a5 M h
    rw [fX11_layDrift_l200] at h
    by_cases hc45 : 25 ≤ a5
    · have h := (if_pos hc45).symm.trans h
      exact hx _ _ _ _ h
    · have h := (if_neg hc45).symm.trans h
      obtain ⟨j46, hj46, h⟩ := Option.bind_eq_some_iff.mp h
      obtain ⟨j47, hj47, h⟩ := Option.bind_eq_some_iff.mp h
      obtain ⟨M48, hM48, h⟩ := sp_do_e h
      refine sp_fr.tr (sp_fr_L (Or.inl (by first | decide | simp)) hM48) ?_
      exact ih _ _ _ _ _ h
set_option maxRecDepth 100000 in
theorem frX11_layDrift_l51 {F : Nat} {kx : sp_Mem → Option sp_Mem} {p : sp_Mem} (hx : ∀  (M : sp_Mem), kx M = some p → sp_fr [127, 128] ([] : List (Nat × Nat)) M p) : ∀ (n : Nat) (a2 : Int32) (a3 : Int32) (a4 : Int32) (M : sp_Mem), fX11_layDrift_l51 F kx n a2 a3 a4 M = some p → sp_fr [127, 128] ([] : List (Nat × Nat)) M p := by
  intro n
  induction n with
  | zero =>
    intro a2 a3 a4 M h
    rw [fX11_layDrift_l51] at h
    cases h
  | succ n ih =>
    intro a2 a3 a4 M h
    rw [fX11_layDrift_l51] at h
    by_cases hc11 : a2 ≤ a4
    · have h := (if_pos hc11).symm.trans h
      exact hx _ h
    · have h := (if_neg hc11).symm.trans h
      refine frX11_layDrift_l60 (fun b16 b17 b18 M15 h => ?_) F _ _ _ _ _ h
      refine frX11_layDrift_l84 (fun b42 b43 b44 M41 h => ?_) F _ _ _ _ _ h
      refine frX11_layDrift_l200 (fun b50 b51 b52 M49 h => ?_) F _ _ _ _ _ h
      exact ih _ _ _ _ h
set_option maxRecDepth 100000 in
theorem frX11_layDrift {F : Nat} {p : sp_Mem} {M : sp_Mem} {a1 : Int32} {a2 : Int32} (h : fX11_layDrift F M a1 a2 = some p) : sp_fr [127, 128] ([] : List (Nat × Nat)) M p := by
  unfold fX11_layDrift at h
  refine frX11_layDrift_l2 (fun b9 M8 h => ?_) F _ _ _ _ h
  obtain ⟨u10, hu10, h⟩ := sp_do_e h
  refine frX11_layDrift_l51 (fun M53 h => ?_) F _ _ _ _ h
  cases h
  exact sp_fr.refl _ _ _
set_option maxRecDepth 100000 in
theorem frX11_drift {F : Nat} {p : (Int64 × sp_Mem)} {M : sp_Mem} {a1 : Int32} {a2 : Int32} {a3 : Int32} (h : fX11_drift F M a1 a2 a3 = some p) : sp_fr [127, 128] ([(103, 0)] : List (Nat × Nat)) M p.2 := by
  unfold fX11_drift at h
  obtain ⟨M1, hM1, h⟩ := sp_do_e h
  refine sp_fr.tr (sp_fr_I (Or.inr (by first | decide | simp)) hM1) ?_
  obtain ⟨v2, hv2, h⟩ := Option.bind_eq_some_iff.mp h
  by_cases hc3 : v2 = 0
  · have h := (if_pos hc3).symm.trans h
    cases h
    exact sp_fr.refl _ _ _
  · have h := (if_neg hc3).symm.trans h
    by_cases hc4 : (fX11_in (Int32.toInt64 a2) 0 60) = 0
    · have h := (if_pos hc4).symm.trans h
      cases h
      exact sp_fr.refl _ _ _
    · have h := (if_neg hc4).symm.trans h
      by_cases hc5 : (fX11_isCell a3) = 0
      · have h := (if_pos hc5).symm.trans h
        cases h
        exact sp_fr.refl _ _ _
      · have h := (if_neg hc5).symm.trans h
        obtain ⟨v6, hv6, h⟩ := Option.bind_eq_some_iff.mp h
        by_cases hc7 : v6 = 0
        · have h := (if_pos hc7).symm.trans h
          cases h
          exact sp_fr.refl _ _ _
        · have h := (if_neg hc7).symm.trans h
          obtain ⟨M8, hM8, h⟩ := Option.bind_eq_some_iff.mp h
          refine sp_fr.tr (sp_fr.mono (by first | decide | simp) (by first | decide | simp) (frX11_layDrift hM8)) ?_
          obtain ⟨j9, hj9, h⟩ := Option.bind_eq_some_iff.mp h
          cases h
          exact sp_fr.refl _ _ _
