set_option maxRecDepth 100000 in
theorem frX10_grant {p : (Int32 × sp_Mem)} {M : sp_Mem} {a1 : Int32} (h : fX10_grant M a1 = some p) : sp_fr [] ([(0, 12)] : List (Nat × Nat)) M p.2 := by
  unfold fX10_grant at h
  obtain ⟨M1, hM1, h⟩ := sp_do_e h
  refine sp_fr.tr (sp_fr_I (Or.inr (by first | decide | simp)) hM1) ?_
  cases h
  exact sp_fr.refl _ _ _
set_option maxRecDepth 100000 in
theorem frX10_spark {p : (Int32 × sp_Mem)} {M : sp_Mem} {a1 : Int32} {a2 : Int32} {a3 : Int32} (h : fX10_spark M a1 a2 a3 = some p) : sp_fr [102, 8, 9, 10] ([(0, 12), (18, 3), (6, 4)] : List (Nat × Nat)) M p.2 := by
  unfold fX10_spark at h
  by_cases hc1 : (fX10_isCell a1) = 0
  · have h := (if_pos hc1).symm.trans h
    obtain ⟨x2, hx2, h⟩ := Option.bind_eq_some_iff.mp h
    refine sp_fr.tr (sp_fr.mono (by first | decide | simp) (by first | decide | simp) (frX10_refuse hx2)) ?_
    cases h
    exact sp_fr.refl _ _ _
  · have h := (if_neg hc1).symm.trans h
    by_cases hc3 : (fX10_isWithin a2 1 9) = 0
    · have h := (if_pos hc3).symm.trans h
      obtain ⟨x4, hx4, h⟩ := Option.bind_eq_some_iff.mp h
      refine sp_fr.tr (sp_fr.mono (by first | decide | simp) (by first | decide | simp) (frX10_refuse hx4)) ?_
      cases h
      exact sp_fr.refl _ _ _
    · have h := (if_neg hc3).symm.trans h
      by_cases hc5 : (fX10_isWithin a3 0 99) = 0
      · have h := (if_pos hc5).symm.trans h
        obtain ⟨x14, hx14, h⟩ := Option.bind_eq_some_iff.mp h
        refine sp_fr.tr (sp_fr.mono (by first | decide | simp) (by first | decide | simp) (frX10_refuse hx14)) ?_
        cases h
        exact sp_fr.refl _ _ _
      · have h := (if_neg hc5).symm.trans h
        obtain ⟨j6, hj6, h⟩ := Option.bind_eq_some_iff.mp h
        by_cases hc7 : (sp_I M 7 j6) = 3
        · have h := (if_pos hc7).symm.trans h
          obtain ⟨x13, hx13, h⟩ := Option.bind_eq_some_iff.mp h
          refine sp_fr.tr (sp_fr.mono (by first | decide | simp) (by first | decide | simp) (frX10_refuse hx13)) ?_
          cases h
          exact sp_fr.refl _ _ _
        · have h := (if_neg hc7).symm.trans h
          by_cases hc8 : (sp_I M 6 4) < 6
          · have h := (if_pos hc8).symm.trans h
            obtain ⟨M9, hM9, h⟩ := Option.bind_eq_some_iff.mp h
            refine sp_fr.tr (sp_fr.mono (by first | decide | simp) (by first | decide | simp) (frX3_clear hM9)) ?_
            obtain ⟨x10, hx10, h⟩ := Option.bind_eq_some_iff.mp h
            refine sp_fr.tr (sp_fr.mono (by first | decide | simp) (by first | decide | simp) (frX5_addSpark hx10)) ?_
            obtain ⟨x11, hx11, h⟩ := Option.bind_eq_some_iff.mp h
            refine sp_fr.tr (sp_fr.mono (by first | decide | simp) (by first | decide | simp) (frX10_grant hx11)) ?_
            cases h
            exact sp_fr.refl _ _ _
          · have h := (if_neg hc8).symm.trans h
            obtain ⟨x12, hx12, h⟩ := Option.bind_eq_some_iff.mp h
            refine sp_fr.tr (sp_fr.mono (by first | decide | simp) (by first | decide | simp) (frX10_refuse hx12)) ?_
            cases h
            exact sp_fr.refl _ _ _
set_option maxRecDepth 100000 in
theorem frX10_of_j32 {F : Nat} {p : (Int32 × sp_Mem)} (a1 : Int32) (a2 : Int32) (s0 : Int32) (M : sp_Mem) (h : fX10_of_j32 F a1 a2 s0 M = some p) : sp_fr [4, 3] ([] : List (Nat × Nat)) M p.2 := by
  unfold fX10_of_j32 at h
  by_cases hc4 : a2 = 0
  · have h := (if_pos hc4).symm.trans h
    obtain ⟨j5, hj5, h⟩ := Option.bind_eq_some_iff.mp h
    cases h
    exact sp_fr.refl _ _ _
  have h := (if_neg hc4).symm.trans h
  by_cases hc6 : a2 = 1
  · have h := (if_pos hc6).symm.trans h
    obtain ⟨j7, hj7, h⟩ := Option.bind_eq_some_iff.mp h
    cases h
    exact sp_fr.refl _ _ _
  have h := (if_neg hc6).symm.trans h
  by_cases hc8 : a2 = 2
  · have h := (if_pos hc8).symm.trans h
    obtain ⟨j9, hj9, h⟩ := Option.bind_eq_some_iff.mp h
    cases h
    exact sp_fr.refl _ _ _
  have h := (if_neg hc8).symm.trans h
  by_cases hc10 : a2 = 3
  · have h := (if_pos hc10).symm.trans h
    by_cases hc11 : s0 = 0
    · have h := (if_pos hc11).symm.trans h
      obtain ⟨x12, hx12, h⟩ := Option.bind_eq_some_iff.mp h
      refine sp_fr.tr (sp_fr.mono (by first | decide | simp) (by first | decide | simp) (frX6_wayOf hx12)) ?_
      cases h
      exact sp_fr.refl _ _ _
    · have h := (if_neg hc11).symm.trans h
      cases h
      exact sp_fr.refl _ _ _
  have h := (if_neg hc10).symm.trans h
  by_cases hc13 : a2 = 4
  · have h := (if_pos hc13).symm.trans h
    by_cases hc14 : s0 = 0
    · have h := (if_pos hc14).symm.trans h
      obtain ⟨x15, hx15, h⟩ := Option.bind_eq_some_iff.mp h
      refine sp_fr.tr (sp_fr.mono (by first | decide | simp) (by first | decide | simp) (frX6_burnOf hx15)) ?_
      cases h
      exact sp_fr.refl _ _ _
    · have h := (if_neg hc14).symm.trans h
      cases h
      exact sp_fr.refl _ _ _
  have h := (if_neg hc13).symm.trans h
  by_cases hc16 : a2 = 5
  · have h := (if_pos hc16).symm.trans h
    obtain ⟨v17, hv17, h⟩ := Option.bind_eq_some_iff.mp h
    cases h
    exact sp_fr.refl _ _ _
  have h := (if_neg hc16).symm.trans h
  cases h
  exact sp_fr.refl _ _ _
set_option maxRecDepth 100000 in
theorem frX10_of {F : Nat} {p : (Int32 × sp_Mem)} {M : sp_Mem} {a1 : Int32} {a2 : Int32} (h : fX10_of F M a1 a2 = some p) : sp_fr [4, 3] ([] : List (Nat × Nat)) M p.2 := by
  unfold fX10_of at h
  by_cases hc1 : (fX5_hasSpark M 6 a1) = 0
  · have h := (if_pos hc1).symm.trans h
    cases h
    exact sp_fr.refl _ _ _
  · have h := (if_neg hc1).symm.trans h
    obtain ⟨j2, hj2, h⟩ := Option.bind_eq_some_iff.mp h
    exact frX10_of_j32 _ _ _ _ h
set_option maxRecDepth 100000 in
theorem frX10_person {p : (Int32 × sp_Mem)} {M : sp_Mem} {a1 : Int32} {a2 : Int32} (h : fX10_person M a1 a2 = some p) : sp_fr [102, 11, 12, 13] ([(0, 12), (18, 3), (6, 8)] : List (Nat × Nat)) M p.2 := by
  unfold fX10_person at h
  by_cases hc1 : (fX10_isCell a1) = 0
  · have h := (if_pos hc1).symm.trans h
    obtain ⟨x2, hx2, h⟩ := Option.bind_eq_some_iff.mp h
    refine sp_fr.tr (sp_fr.mono (by first | decide | simp) (by first | decide | simp) (frX10_refuse hx2)) ?_
    cases h
    exact sp_fr.refl _ _ _
  · have h := (if_neg hc1).symm.trans h
    by_cases hc3 : (fX10_isWithin a2 0 8) = 0
    · have h := (if_pos hc3).symm.trans h
      obtain ⟨x12, hx12, h⟩ := Option.bind_eq_some_iff.mp h
      refine sp_fr.tr (sp_fr.mono (by first | decide | simp) (by first | decide | simp) (frX10_refuse hx12)) ?_
      cases h
      exact sp_fr.refl _ _ _
    · have h := (if_neg hc3).symm.trans h
      obtain ⟨j4, hj4, h⟩ := Option.bind_eq_some_iff.mp h
      by_cases hc5 : (sp_I M 7 j4) = 3
      · have h := (if_pos hc5).symm.trans h
        obtain ⟨x11, hx11, h⟩ := Option.bind_eq_some_iff.mp h
        refine sp_fr.tr (sp_fr.mono (by first | decide | simp) (by first | decide | simp) (frX10_refuse hx11)) ?_
        cases h
        exact sp_fr.refl _ _ _
      · have h := (if_neg hc5).symm.trans h
        by_cases hc6 : (sp_I M 6 8) < 5
        · have h := (if_pos hc6).symm.trans h
          obtain ⟨M7, hM7, h⟩ := Option.bind_eq_some_iff.mp h
          refine sp_fr.tr (sp_fr.mono (by first | decide | simp) (by first | decide | simp) (frX3_clear hM7)) ?_
          obtain ⟨x8, hx8, h⟩ := Option.bind_eq_some_iff.mp h
          refine sp_fr.tr (sp_fr.mono (by first | decide | simp) (by first | decide | simp) (frX5_addPerson hx8)) ?_
          obtain ⟨x9, hx9, h⟩ := Option.bind_eq_some_iff.mp h
          refine sp_fr.tr (sp_fr.mono (by first | decide | simp) (by first | decide | simp) (frX10_grant hx9)) ?_
          cases h
          exact sp_fr.refl _ _ _
        · have h := (if_neg hc6).symm.trans h
          obtain ⟨x10, hx10, h⟩ := Option.bind_eq_some_iff.mp h
          refine sp_fr.tr (sp_fr.mono (by first | decide | simp) (by first | decide | simp) (frX10_refuse hx10)) ?_
          cases h
          exact sp_fr.refl _ _ _
set_option maxRecDepth 100000 in
theorem frX10_knows {p : (Int32 × sp_Mem)} {M : sp_Mem} {a1 : Int32} {a2 : Int32} (h : fX10_knows M a1 a2 = some p) : sp_fr [13, 102] ([(0, 12)] : List (Nat × Nat)) M p.2 := by
  unfold fX10_knows at h
  by_cases hc1 : (fX10_isWithin a2 0 63) = 0
  · have h := (if_pos hc1).symm.trans h
    obtain ⟨x9, hx9, h⟩ := Option.bind_eq_some_iff.mp h
    refine sp_fr.tr (sp_fr.mono (by first | decide | simp) (by first | decide | simp) (frX10_refuse hx9)) ?_
    cases h
    exact sp_fr.refl _ _ _
  · have h := (if_neg hc1).symm.trans h
    by_cases hc2 : (fX5_hasPerson M 6 a1) = 0
    · have h := (if_pos hc2).symm.trans h
      obtain ⟨x8, hx8, h⟩ := Option.bind_eq_some_iff.mp h
      refine sp_fr.tr (sp_fr.mono (by first | decide | simp) (by first | decide | simp) (frX10_refuse hx8)) ?_
      cases h
      exact sp_fr.refl _ _ _
    · have h := (if_neg hc2).symm.trans h
      obtain ⟨j3, hj3, h⟩ := Option.bind_eq_some_iff.mp h
      obtain ⟨u4, hu4, h⟩ := sp_do_e h
      obtain ⟨j5, hj5, h⟩ := Option.bind_eq_some_iff.mp h
      obtain ⟨M6, hM6, h⟩ := sp_do_e h
      refine sp_fr.tr (sp_fr_I (Or.inl (by first | decide | simp)) hM6) ?_
      obtain ⟨x7, hx7, h⟩ := Option.bind_eq_some_iff.mp h
      refine sp_fr.tr (sp_fr.mono (by first | decide | simp) (by first | decide | simp) (frX10_grant hx7)) ?_
      cases h
      exact sp_fr.refl _ _ _
set_option maxRecDepth 100000 in
theorem frX10_asks {F : Nat} {p : (Int32 × sp_Mem)} {M : sp_Mem} {a1 : Int32} {a2 : Int32} {a3 : Int32} (h : fX10_asks F M a1 a2 a3 = some p) : sp_fr [4, 3] ([] : List (Nat × Nat)) M p.2 := by
  unfold fX10_asks at h
  obtain ⟨v1, hv1, h⟩ := Option.bind_eq_some_iff.mp h
  by_cases hc2 : v1 = 0
  · have h := (if_pos hc2).symm.trans h
    cases h
    exact sp_fr.refl _ _ _
  · have h := (if_neg hc2).symm.trans h
    by_cases hc3 : (fX5_hasPerson M 6 a2) = 0
    · have h := (if_pos hc3).symm.trans h
      cases h
      exact sp_fr.refl _ _ _
    · have h := (if_neg hc3).symm.trans h
      obtain ⟨j4, hj4, h⟩ := Option.bind_eq_some_iff.mp h
      obtain ⟨u5, hu5, h⟩ := sp_do_e h
      by_cases hc6 : a3 = 0
      · have h := (if_pos hc6).symm.trans h
        obtain ⟨j7, hj7, h⟩ := Option.bind_eq_some_iff.mp h
        obtain ⟨v8, hv8, h⟩ := Option.bind_eq_some_iff.mp h
        cases h
        exact sp_fr.refl _ _ _
      have h := (if_neg hc6).symm.trans h
      by_cases hc9 : a3 = 1
      · have h := (if_pos hc9).symm.trans h
        obtain ⟨x10, hx10, h⟩ := Option.bind_eq_some_iff.mp h
        refine sp_fr.tr (sp_fr.mono (by first | decide | simp) (by first | decide | simp) (frX6_isShunned hx10)) ?_
        cases h
        exact sp_fr.refl _ _ _
      have h := (if_neg hc9).symm.trans h
      by_cases hc12 : a3 = 2
      · have h := (if_pos hc12).symm.trans h
        obtain ⟨x13, hx13, h⟩ := Option.bind_eq_some_iff.mp h
        refine sp_fr.tr (sp_fr.mono (by first | decide | simp) (by first | decide | simp) (frX6_comes hx13)) ?_
        cases h
        exact sp_fr.refl _ _ _
      have h := (if_neg hc12).symm.trans h
      cases h
      exact sp_fr.refl _ _ _
set_option maxRecDepth 100000 in
theorem frX10_terms {p : (Int32 × sp_Mem)} {M : sp_Mem} {a1 : Int32} {a2 : Int32} (h : fX10_terms M a1 a2 = some p) : sp_fr [102, 16] ([(0, 12), (18, 3)] : List (Nat × Nat)) M p.2 := by
  unfold fX10_terms at h
  by_cases hc1 : (fX10_isWithin a1 0 3) = 0
  · have h := (if_pos hc1).symm.trans h
    obtain ⟨x2, hx2, h⟩ := Option.bind_eq_some_iff.mp h
    refine sp_fr.tr (sp_fr.mono (by first | decide | simp) (by first | decide | simp) (frX10_refuse hx2)) ?_
    cases h
    exact sp_fr.refl _ _ _
  · have h := (if_neg hc1).symm.trans h
    by_cases hc3 : (fX10_isWithin a2 0 (fX10_highestTerm a1)) = 0
    · have h := (if_pos hc3).symm.trans h
      obtain ⟨x10, hx10, h⟩ := Option.bind_eq_some_iff.mp h
      refine sp_fr.tr (sp_fr.mono (by first | decide | simp) (by first | decide | simp) (frX10_refuse hx10)) ?_
      cases h
      exact sp_fr.refl _ _ _
    · have h := (if_neg hc3).symm.trans h
      obtain ⟨j4, hj4, h⟩ := Option.bind_eq_some_iff.mp h
      obtain ⟨u5, hu5, h⟩ := sp_do_e h
      obtain ⟨j6, hj6, h⟩ := Option.bind_eq_some_iff.mp h
      obtain ⟨M7, hM7, h⟩ := sp_do_e h
      refine sp_fr.tr (sp_fr_I (Or.inl (by first | decide | simp)) hM7) ?_
      obtain ⟨M8, hM8, h⟩ := Option.bind_eq_some_iff.mp h
      refine sp_fr.tr (sp_fr.mono (by first | decide | simp) (by first | decide | simp) (frX3_clear hM8)) ?_
      obtain ⟨x9, hx9, h⟩ := Option.bind_eq_some_iff.mp h
      refine sp_fr.tr (sp_fr.mono (by first | decide | simp) (by first | decide | simp) (frX10_grant hx9)) ?_
      cases h
      exact sp_fr.refl _ _ _
set_option maxRecDepth 100000 in
theorem frX10_feed {F : Nat} {p : (Int32 × sp_Mem)} {M : sp_Mem} {a1 : Int32} {a2 : Int32} {a3 : Int32} {a4 : Int32} {a5 : Int32} (h : fX10_feed F M a1 a2 a3 a4 a5 = some p) : sp_fr [95] ([(94, 1)] : List (Nat × Nat)) M p.2 := by
  unfold fX10_feed at h
  by_cases hc1 : (fX8_hasSpace M) = 0
  · have h := (if_pos hc1).symm.trans h
    cases h
    exact sp_fr.refl _ _ _
  · have h := (if_neg hc1).symm.trans h
    obtain ⟨M2, hM2, h⟩ := Option.bind_eq_some_iff.mp h
    refine sp_fr.tr (sp_fr.mono (by first | decide | simp) (by first | decide | simp) (frX8_append hM2)) ?_
    obtain ⟨M3, hM3, h⟩ := Option.bind_eq_some_iff.mp h
    refine sp_fr.tr (sp_fr.mono (by first | decide | simp) (by first | decide | simp) (frX8_append hM3)) ?_
    obtain ⟨M4, hM4, h⟩ := Option.bind_eq_some_iff.mp h
    refine sp_fr.tr (sp_fr.mono (by first | decide | simp) (by first | decide | simp) (frX8_append hM4)) ?_
    obtain ⟨M5, hM5, h⟩ := Option.bind_eq_some_iff.mp h
    refine sp_fr.tr (sp_fr.mono (by first | decide | simp) (by first | decide | simp) (frX8_append hM5)) ?_
    obtain ⟨M6, hM6, h⟩ := Option.bind_eq_some_iff.mp h
    refine sp_fr.tr (sp_fr.mono (by first | decide | simp) (by first | decide | simp) (frX8_append hM6)) ?_
    cases h
    exact sp_fr.refl _ _ _
set_option maxRecDepth 100000 in
theorem frX10_end {p : (Int32 × sp_Mem)} {M : sp_Mem} {a1 : Int32} (h : fX10_end M a1 = some p) : sp_fr [] ([(94, 1)] : List (Nat × Nat)) M p.2 := by
  unfold fX10_end at h
  by_cases hc1 : (fX10_isWithin a1 0 (sp_I M 94 1)) = 0
  · have h := (if_pos hc1).symm.trans h
    cases h
    exact sp_fr.refl _ _ _
  · have h := (if_neg hc1).symm.trans h
    obtain ⟨M2, hM2, h⟩ := sp_do_e h
    refine sp_fr.tr (sp_fr_I (Or.inr (by first | decide | simp)) hM2) ?_
    cases h
    exact sp_fr.refl _ _ _
set_option maxRecDepth 100000 in
theorem frX10_row_j92 {F : Nat} {kb : Int32 → Int32 → sp_Mem → Option (Int32 × sp_Mem)} {kx : Int32 → sp_Mem → Option (Int32 × sp_Mem)} {p : (Int32 × sp_Mem)} (hb : ∀ (a1 : Int32) (a2 : Int32) (M : sp_Mem), kb a1 a2 M = some p → sp_fr [7, 102] ([(0, 13), (94, 1), (18, 3), (0, 12)] : List (Nat × Nat)) M p.2) (hx : ∀ (a1 : Int32) (M : sp_Mem), kx a1 M = some p → sp_fr [7, 102] ([(0, 13), (94, 1), (18, 3), (0, 12)] : List (Nat × Nat)) M p.2) (a1 : Int32) (a2 : Int32) (M : sp_Mem) (h : fX10_row_j92 F kb kx a1 a2 M = some p) : sp_fr [7, 102] ([(0, 13), (94, 1), (18, 3), (0, 12)] : List (Nat × Nat)) M p.2 := by
  unfold fX10_row_j92 at h
  obtain ⟨M7, hM7, h⟩ := sp_do_e h
  refine sp_fr.tr (sp_fr_I (Or.inr (by first | decide | simp)) hM7) ?_
  exact hb _ _ _ h
set_option maxRecDepth 100000 in
theorem frX10_row_l26 {F : Nat} {kx : Int32 → sp_Mem → Option (Int32 × sp_Mem)} {p : (Int32 × sp_Mem)} (hx : ∀ (a1 : Int32) (M : sp_Mem), kx a1 M = some p → sp_fr [7, 102] ([(0, 13), (94, 1), (18, 3), (0, 12)] : List (Nat × Nat)) M p.2) : ∀ (n : Nat) (a1 : Int32) (a2 : Int32) (M : sp_Mem), fX10_row_l26 F kx n a1 a2 M = some p → sp_fr [7, 102] ([(0, 13), (94, 1), (18, 3), (0, 12)] : List (Nat × Nat)) M p.2 := by
  intro n
  induction n with
  | zero =>
    intro a1 a2 M h
    rw [fX10_row_l26] at h
    cases h
  | succ n ih =>
    intro a1 a2 M h
    rw [fX10_row_l26] at h
    by_cases hc3 : (sp_I M 94 1) ≤ a2
    · have h := (if_pos hc3).symm.trans h
      exact hx _ _ h
    · have h := (if_neg hc3).symm.trans h
      obtain ⟨v4, hv4, h⟩ := Option.bind_eq_some_iff.mp h
      obtain ⟨v5, hv5, h⟩ := Option.bind_eq_some_iff.mp h
      by_cases hc6 : (fX10_isCell v4) = 0
      · have h := (if_pos hc6).symm.trans h
        exact frX10_row_j92 ih hx _ _ _ h
      · have h := (if_neg hc6).symm.trans h
        by_cases hc8 : (fX10_isWithin v5 0 3) = 0
        · have h := (if_pos hc8).symm.trans h
          exact frX10_row_j92 ih hx _ _ _ h
        · have h := (if_neg hc8).symm.trans h
          obtain ⟨j9, hj9, h⟩ := Option.bind_eq_some_iff.mp h
          obtain ⟨M10, hM10, h⟩ := sp_do_e h
          refine sp_fr.tr (sp_fr_I (Or.inl (by first | decide | simp)) hM10) ?_
          exact ih _ _ _ h
set_option maxRecDepth 100000 in
theorem frX10_row {F : Nat} {p : (Int32 × sp_Mem)} {M : sp_Mem} (h : fX10_row F M = some p) : sp_fr [7, 102] ([(0, 13), (94, 1), (18, 3), (0, 12)] : List (Nat × Nat)) M p.2 := by
  unfold fX10_row at h
  by_cases hc1 : (sp_I M 94 1) = 0
  · have h := (if_pos hc1).symm.trans h
    obtain ⟨x16, hx16, h⟩ := Option.bind_eq_some_iff.mp h
    refine sp_fr.tr (sp_fr.mono (by first | decide | simp) (by first | decide | simp) (frX10_refuse hx16)) ?_
    cases h
    exact sp_fr.refl _ _ _
  · have h := (if_neg hc1).symm.trans h
    obtain ⟨M2, hM2, h⟩ := sp_do_e h
    refine sp_fr.tr (sp_fr_I (Or.inr (by first | decide | simp)) hM2) ?_
    refine frX10_row_l26 (fun b12 M11 h => ?_) F _ _ _ h
    obtain ⟨M13, hM13, h⟩ := sp_do_e h
    refine sp_fr.tr (sp_fr_I (Or.inr (by first | decide | simp)) hM13) ?_
    obtain ⟨M14, hM14, h⟩ := Option.bind_eq_some_iff.mp h
    refine sp_fr.tr (sp_fr.mono (by first | decide | simp) (by first | decide | simp) (frX3_clear hM14)) ?_
    obtain ⟨x15, hx15, h⟩ := Option.bind_eq_some_iff.mp h
    refine sp_fr.tr (sp_fr.mono (by first | decide | simp) (by first | decide | simp) (frX10_grant hx15)) ?_
    cases h
    exact sp_fr.refl _ _ _
set_option maxRecDepth 100000 in
theorem frX10_orders_l60 {F : Nat} {kx : sp_Mem → Option (Int32 × sp_Mem)} {p : (Int32 × sp_Mem)} (hx : ∀  (M : sp_Mem), kx M = some p → sp_fr [98, 100, 99, 101, 24, 25, 26, 27, 28, 29, 30, 31, 32, 33, 34, 36, 37, 38, 3, 4, 102, 7, 8, 9, 10, 11, 12, 13, 14, 15, 16, 17, 19, 20] ([(0, 15), (96, 7), (96, 6), (97, 2), (97, 3), (94, 4), (94, 3), (94, 2), (96, 4), (96, 5), (96, 8), (0, 14), (94, 1), (23, 4), (23, 8), (23, 11), (23, 14), (23, 15), (35, 2), (35, 3), (22, 5), (22, 4), (0, 12), (6, 4), (6, 8), (6, 11), (6, 14), (6, 15), (18, 2), (18, 3)] : List (Nat × Nat)) M p.2) : ∀ (n : Nat) (a1 : Int32) (M : sp_Mem), fX10_orders_l60 F kx n a1 M = some p → sp_fr [98, 100, 99, 101, 24, 25, 26, 27, 28, 29, 30, 31, 32, 33, 34, 36, 37, 38, 3, 4, 102, 7, 8, 9, 10, 11, 12, 13, 14, 15, 16, 17, 19, 20] ([(0, 15), (96, 7), (96, 6), (97, 2), (97, 3), (94, 4), (94, 3), (94, 2), (96, 4), (96, 5), (96, 8), (0, 14), (94, 1), (23, 4), (23, 8), (23, 11), (23, 14), (23, 15), (35, 2), (35, 3), (22, 5), (22, 4), (0, 12), (6, 4), (6, 8), (6, 11), (6, 14), (6, 15), (18, 2), (18, 3)] : List (Nat × Nat)) M p.2 := by
  intro n
  induction n with
  | zero =>
    intro a1 M h
    rw [fX10_orders_l60] at h
    cases h
  | succ n ih =>
    intro a1 M h
    rw [fX10_orders_l60] at h
    by_cases hc8 : (sp_I M 97 2) ≤ a1
    · have h := (if_pos hc8).symm.trans h
      exact hx _ h
    · have h := (if_neg hc8).symm.trans h
      obtain ⟨x9, hx9, h⟩ := Option.bind_eq_some_iff.mp h
      refine sp_fr.tr (sp_fr.mono (by first | decide | simp) (by first | decide | simp) (frX7_runClause hx9)) ?_
      by_cases hc10 : x9.1 = 0
      · have h := (if_pos hc10).symm.trans h
        obtain ⟨M11, hM11, h⟩ := sp_do_e h
        refine sp_fr.tr (sp_fr_I (Or.inr (by first | decide | simp)) hM11) ?_
        obtain ⟨x12, hx12, h⟩ := Option.bind_eq_some_iff.mp h
        refine sp_fr.tr (sp_fr.mono (by first | decide | simp) (by first | decide | simp) (frX10_refuse hx12)) ?_
        cases h
        exact sp_fr.refl _ _ _
      · have h := (if_neg hc10).symm.trans h
        exact ih _ _ h
set_option maxRecDepth 100000 in
theorem frX10_orders {F : Nat} {p : (Int32 × sp_Mem)} {M : sp_Mem} (h : fX10_orders F M = some p) : sp_fr [98, 100, 99, 101, 24, 25, 26, 27, 28, 29, 30, 31, 32, 33, 34, 36, 37, 38, 3, 4, 102, 7, 8, 9, 10, 11, 12, 13, 14, 15, 16, 17, 19, 20] ([(0, 15), (96, 7), (96, 6), (97, 2), (97, 3), (94, 4), (94, 3), (94, 2), (96, 4), (96, 5), (96, 8), (0, 14), (94, 1), (23, 4), (23, 8), (23, 11), (23, 14), (23, 15), (35, 2), (35, 3), (22, 5), (22, 4), (0, 12), (6, 4), (6, 8), (6, 11), (6, 14), (6, 15), (18, 2), (18, 3)] : List (Nat × Nat)) M p.2 := by
  unfold fX10_orders at h
  obtain ⟨M1, hM1, h⟩ := sp_do_e h
  refine sp_fr.tr (sp_fr_I (Or.inr (by first | decide | simp)) hM1) ?_
  obtain ⟨x2, hx2, h⟩ := Option.bind_eq_some_iff.mp h
  refine sp_fr.tr (sp_fr.mono (by first | decide | simp) (by first | decide | simp) (frX2_read hx2)) ?_
  obtain ⟨M3, hM3, h⟩ := sp_do_e h
  refine sp_fr.tr (sp_fr_I (Or.inr (by first | decide | simp)) hM3) ?_
  obtain ⟨M4, hM4, h⟩ := sp_do_e h
  refine sp_fr.tr (sp_fr_I (Or.inr (by first | decide | simp)) hM4) ?_
  by_cases hc5 : (sp_I M4 0 14) = (-1)
  · have h := (if_pos hc5).symm.trans h
    obtain ⟨M6, hM6, h⟩ := Option.bind_eq_some_iff.mp h
    refine sp_fr.tr (sp_fr.mono (by first | decide | simp) (by first | decide | simp) (frX7_copyFrom hM6)) ?_
    obtain ⟨M7, hM7, h⟩ := Option.bind_eq_some_iff.mp h
    refine sp_fr.tr (sp_fr.mono (by first | decide | simp) (by first | decide | simp) (frX7_startOrders hM7)) ?_
    refine frX10_orders_l60 (fun M13 h => ?_) F _ _ h
    obtain ⟨M14, hM14, h⟩ := Option.bind_eq_some_iff.mp h
    refine sp_fr.tr (sp_fr.mono (by first | decide | simp) (by first | decide | simp) (frX7_copyFrom hM14)) ?_
    obtain ⟨x15, hx15, h⟩ := Option.bind_eq_some_iff.mp h
    refine sp_fr.tr (sp_fr.mono (by first | decide | simp) (by first | decide | simp) (frX10_grant hx15)) ?_
    cases h
    exact sp_fr.refl _ _ _
  · have h := (if_neg hc5).symm.trans h
    obtain ⟨x16, hx16, h⟩ := Option.bind_eq_some_iff.mp h
    refine sp_fr.tr (sp_fr.mono (by first | decide | simp) (by first | decide | simp) (frX10_refuse hx16)) ?_
    cases h
    exact sp_fr.refl _ _ _
set_option maxRecDepth 100000 in
theorem frX10_force_j23 {p : (Int32 × sp_Mem)} (a1 : Int32) (M : sp_Mem) (h : fX10_force_j23 a1 M = some p) : sp_fr [102] ([(6, 15), (0, 12)] : List (Nat × Nat)) M p.2 := by
  unfold fX10_force_j23 at h
  obtain ⟨u2, hu2, h⟩ := sp_do_e h
  obtain ⟨M3, hM3, h⟩ := sp_do_e h
  refine sp_fr.tr (sp_fr_I (Or.inr (by first | decide | simp)) hM3) ?_
  obtain ⟨x4, hx4, h⟩ := Option.bind_eq_some_iff.mp h
  refine sp_fr.tr (sp_fr.mono (by first | decide | simp) (by first | decide | simp) (frX10_grant hx4)) ?_
  cases h
  exact sp_fr.refl _ _ _
set_option maxRecDepth 100000 in
theorem frX10_force {p : (Int32 × sp_Mem)} {M : sp_Mem} {a1 : Int32} (h : fX10_force M a1 = some p) : sp_fr [102] ([(6, 15), (0, 12)] : List (Nat × Nat)) M p.2 := by
  unfold fX10_force at h
  by_cases hc1 : a1 = (-1)
  · have h := (if_pos hc1).symm.trans h
    exact frX10_force_j23 _ _ h
  · have h := (if_neg hc1).symm.trans h
    by_cases hc5 : (fX5_hasLaw M 6 a1) = 0
    · have h := (if_pos hc5).symm.trans h
      obtain ⟨x6, hx6, h⟩ := Option.bind_eq_some_iff.mp h
      refine sp_fr.tr (sp_fr.mono (by first | decide | simp) (by first | decide | simp) (frX10_refuse hx6)) ?_
      cases h
      exact sp_fr.refl _ _ _
    · have h := (if_neg hc5).symm.trans h
      exact frX10_force_j23 _ _ h
set_option maxRecDepth 100000 in
theorem frX10_noted {p : (Int32 × sp_Mem)} {M : sp_Mem} {a1 : Int32} (h : fX10_noted M a1 = some p) : sp_fr [102] ([(0, 12)] : List (Nat × Nat)) M p.2 := by
  unfold fX10_noted at h
  by_cases hc1 : 0 ≤ a1
  · have h := (if_pos hc1).symm.trans h
    obtain ⟨x2, hx2, h⟩ := Option.bind_eq_some_iff.mp h
    refine sp_fr.tr (sp_fr.mono (by first | decide | simp) (by first | decide | simp) (frX10_grant hx2)) ?_
    cases h
    exact sp_fr.refl _ _ _
  · have h := (if_neg hc1).symm.trans h
    obtain ⟨x3, hx3, h⟩ := Option.bind_eq_some_iff.mp h
    refine sp_fr.tr (sp_fr.mono (by first | decide | simp) (by first | decide | simp) (frX10_refuse hx3)) ?_
    cases h
    exact sp_fr.refl _ _ _
set_option maxRecDepth 100000 in
theorem frX10_call {F : Nat} {p : (Int32 × sp_Mem)} {M : sp_Mem} {a1 : Int32} {a2 : Int32} (h : fX10_call F M a1 a2 = some p) : sp_fr [19, 4, 3, 8, 9, 20, 7, 11, 16, 102] ([(18, 2), (18, 3), (0, 12)] : List (Nat × Nat)) M p.2 := by
  unfold fX10_call at h
  obtain ⟨x1, hx1, h⟩ := Option.bind_eq_some_iff.mp h
  refine sp_fr.tr (sp_fr.mono (by first | decide | simp) (by first | decide | simp) (frX7_perform hx1)) ?_
  obtain ⟨x2, hx2, h⟩ := Option.bind_eq_some_iff.mp h
  refine sp_fr.tr (sp_fr.mono (by first | decide | simp) (by first | decide | simp) (frX10_noted hx2)) ?_
  cases h
  exact sp_fr.refl _ _ _
set_option maxRecDepth 100000 in
theorem frX10_wet {F : Nat} {p : (Int32 × sp_Mem)} {M : sp_Mem} {a1 : Int32} (h : fX10_wet F M a1 = some p) : sp_fr [19, 4, 3, 8, 9, 20, 7, 11, 16, 102] ([(18, 2), (18, 3), (0, 12)] : List (Nat × Nat)) M p.2 := by
  unfold fX10_wet at h
  obtain ⟨x1, hx1, h⟩ := Option.bind_eq_some_iff.mp h
  refine sp_fr.tr (sp_fr.mono (by first | decide | simp) (by first | decide | simp) (frX7_perform hx1)) ?_
  obtain ⟨x2, hx2, h⟩ := Option.bind_eq_some_iff.mp h
  refine sp_fr.tr (sp_fr.mono (by first | decide | simp) (by first | decide | simp) (frX10_noted hx2)) ?_
  cases h
  exact sp_fr.refl _ _ _
set_option maxRecDepth 100000 in
theorem frX10_walk {F : Nat} {p : (Int32 × sp_Mem)} {M : sp_Mem} {a1 : Int32} {a2 : Int32} (h : fX10_walk F M a1 a2 = some p) : sp_fr [19, 4, 3, 8, 9, 20, 7, 11, 16, 102] ([(18, 2), (18, 3), (0, 12)] : List (Nat × Nat)) M p.2 := by
  unfold fX10_walk at h
  obtain ⟨x1, hx1, h⟩ := Option.bind_eq_some_iff.mp h
  refine sp_fr.tr (sp_fr.mono (by first | decide | simp) (by first | decide | simp) (frX7_perform hx1)) ?_
  obtain ⟨x2, hx2, h⟩ := Option.bind_eq_some_iff.mp h
  refine sp_fr.tr (sp_fr.mono (by first | decide | simp) (by first | decide | simp) (frX10_noted hx2)) ?_
  cases h
  exact sp_fr.refl _ _ _
set_option maxRecDepth 100000 in
theorem frX10_pass {F : Nat} {p : (Int32 × sp_Mem)} {M : sp_Mem} (h : fX10_pass F M = some p) : sp_fr [19, 4, 3, 8, 9, 20, 7, 11, 16, 102] ([(18, 2), (18, 3), (0, 12)] : List (Nat × Nat)) M p.2 := by
  unfold fX10_pass at h
  obtain ⟨x1, hx1, h⟩ := Option.bind_eq_some_iff.mp h
  refine sp_fr.tr (sp_fr.mono (by first | decide | simp) (by first | decide | simp) (frX7_perform hx1)) ?_
  obtain ⟨x2, hx2, h⟩ := Option.bind_eq_some_iff.mp h
  refine sp_fr.tr (sp_fr.mono (by first | decide | simp) (by first | decide | simp) (frX10_noted hx2)) ?_
  cases h
  exact sp_fr.refl _ _ _
set_option maxRecDepth 100000 in
theorem frX10_undo {p : (Int32 × sp_Mem)} {M : sp_Mem} (h : fX10_undo M = some p) : sp_fr [7, 8, 9, 11, 16, 102] ([(18, 3), (0, 12)] : List (Nat × Nat)) M p.2 := by
  unfold fX10_undo at h
  obtain ⟨x1, hx1, h⟩ := Option.bind_eq_some_iff.mp h
  refine sp_fr.tr (sp_fr.mono (by first | decide | simp) (by first | decide | simp) (frX3_takeBack hx1)) ?_
  obtain ⟨x2, hx2, h⟩ := Option.bind_eq_some_iff.mp h
  refine sp_fr.tr (sp_fr.mono (by first | decide | simp) (by first | decide | simp) (frX10_noted hx2)) ?_
  cases h
  exact sp_fr.refl _ _ _
set_option maxRecDepth 100000 in
theorem frX10_where {F : Nat} {p : (Int32 × sp_Mem)} {M : sp_Mem} {a1 : Int32} {a2 : Int32} (h : fX10_where F M a1 a2 = some p) : sp_fr [79, 80, 81, 82, 83, 84, 85, 86, 87, 88, 89, 4, 3] ([(78, 4), (78, 8), (78, 11), (78, 14), (78, 15)] : List (Nat × Nat)) M p.2 := by
  unfold fX10_where at h
  by_cases hc1 : (fX5_hasSpark M 6 a1) = 0
  · have h := (if_pos hc1).symm.trans h
    cases h
    exact sp_fr.refl _ _ _
  · have h := (if_neg hc1).symm.trans h
    by_cases hc2 : (fX10_isWithin a2 0 60) = 0
    · have h := (if_pos hc2).symm.trans h
      cases h
      exact sp_fr.refl _ _ _
    · have h := (if_neg hc2).symm.trans h
      obtain ⟨x3, hx3, h⟩ := Option.bind_eq_some_iff.mp h
      refine sp_fr.tr (sp_fr.mono (by first | decide | simp) (by first | decide | simp) (frX1_cellLater hx3)) ?_
      cases h
      exact sp_fr.refl _ _ _
set_option maxRecDepth 100000 in
theorem frX10_first {F : Nat} {p : (Int32 × sp_Mem)} {M : sp_Mem} {a1 : Int32} {a2 : Int32} (h : fX10_first F M a1 a2 = some p) : sp_fr [79, 80, 81, 82, 83, 84, 85, 86, 87, 88, 89, 4, 3] ([(78, 4), (78, 8), (78, 11), (78, 14), (78, 15)] : List (Nat × Nat)) M p.2 := by
  unfold fX10_first at h
  by_cases hc1 : (fX10_isCell a1) = 0
  · have h := (if_pos hc1).symm.trans h
    cases h
    exact sp_fr.refl _ _ _
  · have h := (if_neg hc1).symm.trans h
    by_cases hc2 : (fX10_isWithin a2 0 1) = 0
    · have h := (if_pos hc2).symm.trans h
      cases h
      exact sp_fr.refl _ _ _
    · have h := (if_neg hc2).symm.trans h
      obtain ⟨x3, hx3, h⟩ := Option.bind_eq_some_iff.mp h
      refine sp_fr.tr (sp_fr.mono (by first | decide | simp) (by first | decide | simp) (frX1_firstOn hx3)) ?_
      cases h
      exact sp_fr.refl _ _ _
set_option maxRecDepth 100000 in
theorem frX10_chain {F : Nat} {p : (Int32 × sp_Mem)} {M : sp_Mem} {a1 : Int32} {a2 : Int32} (h : fX10_chain F M a1 a2 = some p) : sp_fr [92, 4, 3, 93] ([] : List (Nat × Nat)) M p.2 := by
  unfold fX10_chain at h
  obtain ⟨v1, hv1, h⟩ := Option.bind_eq_some_iff.mp h
  by_cases hc2 : v1 = 0
  · have h := (if_pos hc2).symm.trans h
    cases h
    exact sp_fr.refl _ _ _
  · have h := (if_neg hc2).symm.trans h
    obtain ⟨x3, hx3, h⟩ := Option.bind_eq_some_iff.mp h
    refine sp_fr.tr (sp_fr.mono (by first | decide | simp) (by first | decide | simp) (frX1_findChain hx3)) ?_
    by_cases hc4 : a2 = (-1)
    · have h := (if_pos hc4).symm.trans h
      cases h
      exact sp_fr.refl _ _ _
    · have h := (if_neg hc4).symm.trans h
      by_cases hc5 : (fX10_isWithin a2 0 (x3.1 - 1)) = 0
      · have h := (if_pos hc5).symm.trans h
        cases h
        exact sp_fr.refl _ _ _
      · have h := (if_neg hc5).symm.trans h
        obtain ⟨v6, hv6, h⟩ := Option.bind_eq_some_iff.mp h
        cases h
        exact sp_fr.refl _ _ _
set_option maxRecDepth 100000 in
theorem frX10_answer {p : (Int32 × sp_Mem)} {M : sp_Mem} {a1 : Int32} {a2 : Int32} (h : fX10_answer M a1 a2 = some p) : sp_fr [14, 15, 102] ([(6, 11), (0, 12)] : List (Nat × Nat)) M p.2 := by
  unfold fX10_answer at h
  by_cases hc1 : (fX10_isWithin a2 0 1) = 0
  · have h := (if_pos hc1).symm.trans h
    obtain ⟨x8, hx8, h⟩ := Option.bind_eq_some_iff.mp h
    refine sp_fr.tr (sp_fr.mono (by first | decide | simp) (by first | decide | simp) (frX10_refuse hx8)) ?_
    cases h
    exact sp_fr.refl _ _ _
  · have h := (if_neg hc1).symm.trans h
    by_cases hc2 : (fX5_hasPerson M 6 a1) = 0
    · have h := (if_pos hc2).symm.trans h
      obtain ⟨x7, hx7, h⟩ := Option.bind_eq_some_iff.mp h
      refine sp_fr.tr (sp_fr.mono (by first | decide | simp) (by first | decide | simp) (frX10_refuse hx7)) ?_
      cases h
      exact sp_fr.refl _ _ _
    · have h := (if_neg hc2).symm.trans h
      by_cases hc3 : (sp_I M 6 11) < 6
      · have h := (if_pos hc3).symm.trans h
        obtain ⟨x4, hx4, h⟩ := Option.bind_eq_some_iff.mp h
        refine sp_fr.tr (sp_fr.mono (by first | decide | simp) (by first | decide | simp) (frX5_addAnswer hx4)) ?_
        obtain ⟨x5, hx5, h⟩ := Option.bind_eq_some_iff.mp h
        refine sp_fr.tr (sp_fr.mono (by first | decide | simp) (by first | decide | simp) (frX10_grant hx5)) ?_
        cases h
        exact sp_fr.refl _ _ _
      · have h := (if_neg hc3).symm.trans h
        obtain ⟨x6, hx6, h⟩ := Option.bind_eq_some_iff.mp h
        refine sp_fr.tr (sp_fr.mono (by first | decide | simp) (by first | decide | simp) (frX10_refuse hx6)) ?_
        cases h
        exact sp_fr.refl _ _ _
set_option maxRecDepth 100000 in
theorem frX10_forget {p : (Int32 × sp_Mem)} {M : sp_Mem} (h : fX10_forget M = some p) : sp_fr [] ([(6, 11)] : List (Nat × Nat)) M p.2 := by
  unfold fX10_forget at h
  obtain ⟨u1, hu1, h⟩ := sp_do_e h
  obtain ⟨M2, hM2, h⟩ := sp_do_e h
  refine sp_fr.tr (sp_fr_I (Or.inr (by first | decide | simp)) hM2) ?_
  cases h
  exact sp_fr.refl _ _ _
set_option maxRecDepth 100000 in
theorem frX10_hot_j16 {F : Nat} {p : (Int32 × sp_Mem)} (a1 : Int32) (a2 : Int32) (M : sp_Mem) (h : fX10_hot_j16 F a1 a2 M = some p) : sp_fr [79, 80, 81, 82, 83, 84, 85, 86, 87, 88, 89, 4, 3] ([(78, 4), (78, 8), (78, 11), (78, 14), (78, 15)] : List (Nat × Nat)) M p.2 := by
  unfold fX10_hot_j16 at h
  by_cases hc2 : (fX10_isWithin a2 0 60) = 0
  · have h := (if_pos hc2).symm.trans h
    cases h
    exact sp_fr.refl _ _ _
  · have h := (if_neg hc2).symm.trans h
    obtain ⟨x3, hx3, h⟩ := Option.bind_eq_some_iff.mp h
    refine sp_fr.tr (sp_fr.mono (by first | decide | simp) (by first | decide | simp) (frX1_heatLater hx3)) ?_
    cases h
    exact sp_fr.refl _ _ _
set_option maxRecDepth 100000 in
theorem frX10_hot {F : Nat} {p : (Int32 × sp_Mem)} {M : sp_Mem} {a1 : Int32} {a2 : Int32} (h : fX10_hot F M a1 a2 = some p) : sp_fr [79, 80, 81, 82, 83, 84, 85, 86, 87, 88, 89, 4, 3] ([(78, 4), (78, 8), (78, 11), (78, 14), (78, 15)] : List (Nat × Nat)) M p.2 := by
  unfold fX10_hot at h
  by_cases hc1 : a1 = (-1)
  · have h := (if_pos hc1).symm.trans h
    exact frX10_hot_j16 _ _ _ h
  · have h := (if_neg hc1).symm.trans h
    by_cases hc4 : (fX5_hasLaw M 6 a1) = 0
    · have h := (if_pos hc4).symm.trans h
      cases h
      exact sp_fr.refl _ _ _
    · have h := (if_neg hc4).symm.trans h
      exact frX10_hot_j16 _ _ _ h
set_option maxRecDepth 100000 in
theorem frX10_nights {F : Nat} {p : (Int32 × sp_Mem)} {M : sp_Mem} {a1 : Int32} {a2 : Int32} (h : fX10_nights F M a1 a2 = some p) : sp_fr [102, 40, 41, 42, 43, 44, 45, 46, 47, 48, 49, 50, 4, 3] ([(0, 12), (39, 4), (39, 8), (39, 11), (39, 14), (39, 15), (0, 11), (77, 6)] : List (Nat × Nat)) M p.2 := by
  unfold fX10_nights at h
  by_cases hc1 : (fX10_isWithin a1 0 1000000) = 0
  · have h := (if_pos hc1).symm.trans h
    obtain ⟨x2, hx2, h⟩ := Option.bind_eq_some_iff.mp h
    refine sp_fr.tr (sp_fr.mono (by first | decide | simp) (by first | decide | simp) (frX10_refuse hx2)) ?_
    cases h
    exact sp_fr.refl _ _ _
  · have h := (if_neg hc1).symm.trans h
    by_cases hc3 : (fX10_isWithin a2 1 60) = 0
    · have h := (if_pos hc3).symm.trans h
      obtain ⟨x12, hx12, h⟩ := Option.bind_eq_some_iff.mp h
      refine sp_fr.tr (sp_fr.mono (by first | decide | simp) (by first | decide | simp) (frX10_refuse hx12)) ?_
      cases h
      exact sp_fr.refl _ _ _
    · have h := (if_neg hc3).symm.trans h
      by_cases hc4 : (sp_I M 6 4) = 0
      · have h := (if_pos hc4).symm.trans h
        obtain ⟨x5, hx5, h⟩ := Option.bind_eq_some_iff.mp h
        refine sp_fr.tr (sp_fr.mono (by first | decide | simp) (by first | decide | simp) (frX10_refuse hx5)) ?_
        cases h
        exact sp_fr.refl _ _ _
      · have h := (if_neg hc4).symm.trans h
        by_cases hc6 : (sp_I M 6 8) = 0
        · have h := (if_pos hc6).symm.trans h
          obtain ⟨x11, hx11, h⟩ := Option.bind_eq_some_iff.mp h
          refine sp_fr.tr (sp_fr.mono (by first | decide | simp) (by first | decide | simp) (frX10_refuse hx11)) ?_
          cases h
          exact sp_fr.refl _ _ _
        · have h := (if_neg hc6).symm.trans h
          obtain ⟨M7, hM7, h⟩ := Option.bind_eq_some_iff.mp h
          refine sp_fr.tr (sp_fr.mono (by first | decide | simp) (by first | decide | simp) (frX5_copyFrom hM7)) ?_
          obtain ⟨M8, hM8, h⟩ := sp_do_e h
          refine sp_fr.tr (sp_fr_I (Or.inr (by first | decide | simp)) hM8) ?_
          obtain ⟨x9, hx9, h⟩ := Option.bind_eq_some_iff.mp h
          refine sp_fr.tr (sp_fr.mono (by first | decide | simp) (by first | decide | simp) (frX1_playNights hx9)) ?_
          obtain ⟨x10, hx10, h⟩ := Option.bind_eq_some_iff.mp h
          refine sp_fr.tr (sp_fr.mono (by first | decide | simp) (by first | decide | simp) (frX10_grant hx10)) ?_
          cases h
          exact sp_fr.refl _ _ _
set_option maxRecDepth 100000 in
theorem frX10_back {F : Nat} {p : (Int32 × sp_Mem)} {M : sp_Mem} {a1 : Int32} (h : fX10_back F M a1 = some p) : sp_fr [7, 8, 9, 10, 11, 12, 13, 14, 15, 16, 17, 102] ([(6, 4), (6, 8), (6, 11), (6, 14), (6, 15), (18, 3), (0, 12)] : List (Nat × Nat)) M p.2 := by
  unfold fX10_back at h
  by_cases hc1 : (fX10_isWithin a1 0 1) = 0
  · have h := (if_pos hc1).symm.trans h
    obtain ⟨x10, hx10, h⟩ := Option.bind_eq_some_iff.mp h
    refine sp_fr.tr (sp_fr.mono (by first | decide | simp) (by first | decide | simp) (frX10_refuse hx10)) ?_
    cases h
    exact sp_fr.refl _ _ _
  · have h := (if_neg hc1).symm.trans h
    obtain ⟨j2, hj2, h⟩ := Option.bind_eq_some_iff.mp h
    by_cases hc3 : (sp_I M 76 j2) = 0
    · have h := (if_pos hc3).symm.trans h
      obtain ⟨x9, hx9, h⟩ := Option.bind_eq_some_iff.mp h
      refine sp_fr.tr (sp_fr.mono (by first | decide | simp) (by first | decide | simp) (frX10_refuse hx9)) ?_
      cases h
      exact sp_fr.refl _ _ _
    · have h := (if_neg hc3).symm.trans h
      obtain ⟨j4, hj4, h⟩ := Option.bind_eq_some_iff.mp h
      obtain ⟨w5, hw5, h⟩ := Option.bind_eq_some_iff.mp h
      obtain ⟨M6, hM6, h⟩ := Option.bind_eq_some_iff.mp h
      refine sp_fr.tr (sp_fr.mono (by first | decide | simp) (by first | decide | simp) (frX5_copyFrom hM6)) ?_
      obtain ⟨M7, hM7, h⟩ := Option.bind_eq_some_iff.mp h
      refine sp_fr.tr (sp_fr.mono (by first | decide | simp) (by first | decide | simp) (frX3_clear hM7)) ?_
      obtain ⟨x8, hx8, h⟩ := Option.bind_eq_some_iff.mp h
      refine sp_fr.tr (sp_fr.mono (by first | decide | simp) (by first | decide | simp) (frX10_grant hx8)) ?_
      cases h
      exact sp_fr.refl _ _ _
