set_option maxRecDepth 100000 in
theorem frX1_draw {p : (Int32 × sp_Mem)} {M : sp_Mem} {a1 : Int32} (h : fX1_draw M a1 = some p) : sp_fr [] ([(77, 6)] : List (Nat × Nat)) M p.2 := by
  unfold fX1_draw at h
  obtain ⟨M1, hM1, h⟩ := sp_do_e h
  refine sp_fr.tr (sp_fr_I (Or.inr (by first | decide | simp)) hM1) ?_
  by_cases hc2 : a1 ≤ 0
  · have h := (if_pos hc2).symm.trans h
    cases h
    exact sp_fr.refl _ _ _
  · have h := (if_neg hc2).symm.trans h
    by_cases hz3 : a1 = 0
    · rw [if_pos hz3] at h; cases h
    have h := (if_neg hz3).symm.trans h
    cases h
    exact sp_fr.refl _ _ _
set_option maxRecDepth 100000 in
theorem frX6_callSpark_j84 {F : Nat} {o1 : Nat} {p : (Int32 × sp_Mem)} (a2 : Int32) (a4 : Int32) (a5 : Int32) (a6 : Int32) (s0 : Int32) (s1 : Int32) (M : sp_Mem) (h : fX6_callSpark_j84 F o1 a2 a4 a5 a6 s0 s1 M = some p) : sp_fr [4, 3, (o1 + 2), (o1 + 3)] ([] : List (Nat × Nat)) M p.2 := by
  unfold fX6_callSpark_j84 at h
  obtain ⟨j11, hj11, h⟩ := Option.bind_eq_some_iff.mp h
  obtain ⟨M12, hM12, h⟩ := sp_do_e h
  refine sp_fr.tr (sp_fr_I (Or.inl (by first | decide | simp)) hM12) ?_
  by_cases hc13 : a6 = 0
  · have h := (if_pos hc13).symm.trans h
    obtain ⟨j14, hj14, h⟩ := Option.bind_eq_some_iff.mp h
    obtain ⟨j15, hj15, h⟩ := Option.bind_eq_some_iff.mp h
    obtain ⟨M16, hM16, h⟩ := sp_do_e h
    refine sp_fr.tr (sp_fr_I (Or.inl (by first | decide | simp)) hM16) ?_
    obtain ⟨v17, hv17, h⟩ := Option.bind_eq_some_iff.mp h
    cases h
    exact sp_fr.refl _ _ _
  · have h := (if_neg hc13).symm.trans h
    obtain ⟨j18, hj18, h⟩ := Option.bind_eq_some_iff.mp h
    obtain ⟨M19, hM19, h⟩ := sp_do_e h
    refine sp_fr.tr (sp_fr_I (Or.inl (by first | decide | simp)) hM19) ?_
    obtain ⟨v20, hv20, h⟩ := Option.bind_eq_some_iff.mp h
    cases h
    exact sp_fr.refl _ _ _
set_option maxRecDepth 100000 in
theorem frX6_callSpark_j66 {F : Nat} {o1 : Nat} {p : (Int32 × sp_Mem)} (a2 : Int32) (a4 : Int32) (a5 : Int32) (s0 : Int32) (M : sp_Mem) (h : fX6_callSpark_j66 F o1 a2 a4 a5 s0 M = some p) : sp_fr [4, 3, (o1 + 2), (o1 + 3)] ([] : List (Nat × Nat)) M p.2 := by
  unfold fX6_callSpark_j66 at h
  exact frX6_callSpark_j84 _ _ _ _ _ _ _ h
set_option maxRecDepth 100000 in
theorem frX6_callSpark {F : Nat} {o1 : Nat} {p : (Int32 × sp_Mem)} {M : sp_Mem} {a2 : Int32} {a3 : Int32} (h : fX6_callSpark F M o1 a2 a3 = some p) : sp_fr [4, 3, (o1 + 2), (o1 + 3)] ([] : List (Nat × Nat)) M p.2 := by
  unfold fX6_callSpark at h
  by_cases hc1 : (fX5_hasSpark M o1 a2) = 0
  · have h := (if_pos hc1).symm.trans h
    cases h
    exact sp_fr.refl _ _ _
  · have h := (if_neg hc1).symm.trans h
    by_cases hc2 : (fX5_hasPerson M o1 a3) = 0
    · have h := (if_pos hc2).symm.trans h
      cases h
      exact sp_fr.refl _ _ _
    · have h := (if_neg hc2).symm.trans h
      obtain ⟨j3, hj3, h⟩ := Option.bind_eq_some_iff.mp h
      obtain ⟨u4, hu4, h⟩ := sp_do_e h
      obtain ⟨x5, hx5, h⟩ := Option.bind_eq_some_iff.mp h
      refine sp_fr.tr (sp_fr.mono (by first | decide | simp) (by first | decide | simp) (frX6_comes hx5)) ?_
      by_cases hc6 : x5.1 = 0
      · have h := (if_pos hc6).symm.trans h
        cases h
        exact sp_fr.refl _ _ _
      · have h := (if_neg hc6).symm.trans h
        obtain ⟨j7, hj7, h⟩ := Option.bind_eq_some_iff.mp h
        obtain ⟨u8, hu8, h⟩ := sp_do_e h
        exact frX6_callSpark_j66 _ _ _ _ _ h
set_option maxRecDepth 100000 in
theorem frX5_walkPerson {o0 : Nat} {p : (Int32 × sp_Mem)} {M : sp_Mem} {a1 : Int32} {a2 : Int32} (h : fX5_walkPerson M o0 a1 a2 = some p) : sp_fr [(o0 + 5)] ([] : List (Nat × Nat)) M p.2 := by
  unfold fX5_walkPerson at h
  by_cases hc1 : (fX10_isWithin a2 1 4) = 0
  · have h := (if_pos hc1).symm.trans h
    cases h
    exact sp_fr.refl _ _ _
  · have h := (if_neg hc1).symm.trans h
    by_cases hc2 : (fX5_hasPerson M o0 a1) = 0
    · have h := (if_pos hc2).symm.trans h
      cases h
      exact sp_fr.refl _ _ _
    · have h := (if_neg hc2).symm.trans h
      obtain ⟨j3, hj3, h⟩ := Option.bind_eq_some_iff.mp h
      obtain ⟨v4, hv4, h⟩ := Option.bind_eq_some_iff.mp h
      by_cases hc5 : (fX10_isCell v4) = 0
      · have h := (if_pos hc5).symm.trans h
        cases h
        exact sp_fr.refl _ _ _
      · have h := (if_neg hc5).symm.trans h
        obtain ⟨j6, hj6, h⟩ := Option.bind_eq_some_iff.mp h
        by_cases hc7 : (sp_I M (o0 + 1) j6) = 3
        · have h := (if_pos hc7).symm.trans h
          cases h
          exact sp_fr.refl _ _ _
        · have h := (if_neg hc7).symm.trans h
          obtain ⟨j8, hj8, h⟩ := Option.bind_eq_some_iff.mp h
          obtain ⟨M9, hM9, h⟩ := sp_do_e h
          refine sp_fr.tr (sp_fr_I (Or.inl (by first | decide | simp)) hM9) ?_
          cases h
          exact sp_fr.refl _ _ _
set_option maxRecDepth 100000 in
theorem frX1_playNights_j101 {F : Nat} {o1 : Nat} {kb : Int32 → Int32 → Int32 → sp_Mem → Option (Int32 × sp_Mem)} {kx : Int32 → sp_Mem → Option (Int32 × sp_Mem)} {p : (Int32 × sp_Mem)} (hb : ∀ (a3 : Int32) (a4 : Int32) (a5 : Int32) (M : sp_Mem), kb a3 a4 a5 M = some p → sp_fr [4, 3, (o1 + 3), (o1 + 2), (o1 + 10), (o1 + 5)] ([(77, 6)] : List (Nat × Nat)) M p.2) (hx : ∀ (a4 : Int32) (M : sp_Mem), kx a4 M = some p → sp_fr [4, 3, (o1 + 3), (o1 + 2), (o1 + 10), (o1 + 5)] ([(77, 6)] : List (Nat × Nat)) M p.2) (a3 : Int32) (a4 : Int32) (a5 : Int32) (M : sp_Mem) (h : fX1_playNights_j101 F o1 kb kx a3 a4 a5 M = some p) : sp_fr [4, 3, (o1 + 3), (o1 + 2), (o1 + 10), (o1 + 5)] ([(77, 6)] : List (Nat × Nat)) M p.2 := by
  unfold fX1_playNights_j101 at h
  obtain ⟨M9, hM9, h⟩ := Option.bind_eq_some_iff.mp h
  refine sp_fr.tr (sp_fr.mono (by first | decide | simp) (by first | decide | simp) (frX6_passMinute hM9)) ?_
  exact hb _ _ _ _ h
set_option maxRecDepth 100000 in
theorem frX1_playNights_j82 {F : Nat} {o1 : Nat} {kb : Int32 → Int32 → Int32 → sp_Mem → Option (Int32 × sp_Mem)} {kx : Int32 → sp_Mem → Option (Int32 × sp_Mem)} {p : (Int32 × sp_Mem)} (hb : ∀ (a3 : Int32) (a4 : Int32) (a5 : Int32) (M : sp_Mem), kb a3 a4 a5 M = some p → sp_fr [4, 3, (o1 + 3), (o1 + 2), (o1 + 10), (o1 + 5)] ([(77, 6)] : List (Nat × Nat)) M p.2) (hx : ∀ (a4 : Int32) (M : sp_Mem), kx a4 M = some p → sp_fr [4, 3, (o1 + 3), (o1 + 2), (o1 + 10), (o1 + 5)] ([(77, 6)] : List (Nat × Nat)) M p.2) (a3 : Int32) (a4 : Int32) (a5 : Int32) (a6 : Int32) (a7 : Int32) (a8 : Int32) (M : sp_Mem) (h : fX1_playNights_j82 F o1 kb kx a3 a4 a5 a6 a7 a8 M = some p) : sp_fr [4, 3, (o1 + 3), (o1 + 2), (o1 + 10), (o1 + 5)] ([(77, 6)] : List (Nat × Nat)) M p.2 := by
  unfold fX1_playNights_j82 at h
  by_cases hc8 : a8 = 1
  · have h := (if_pos hc8).symm.trans h
    obtain ⟨x10, hx10, h⟩ := Option.bind_eq_some_iff.mp h
    refine sp_fr.tr (sp_fr.mono (by first | decide | simp) (by first | decide | simp) (frX5_walkPerson hx10)) ?_
    exact frX1_playNights_j101 hb hx _ _ _ _ h
  · have h := (if_neg hc8).symm.trans h
    exact frX1_playNights_j101 hb hx _ _ _ _ h
set_option maxRecDepth 100000 in
theorem frX1_playNights_l11 {F : Nat} {o1 : Nat} {kx : Int32 → sp_Mem → Option (Int32 × sp_Mem)} {p : (Int32 × sp_Mem)} (hx : ∀ (a4 : Int32) (M : sp_Mem), kx a4 M = some p → sp_fr [4, 3, (o1 + 3), (o1 + 2), (o1 + 10), (o1 + 5)] ([(77, 6)] : List (Nat × Nat)) M p.2) : ∀ (n : Nat) (a3 : Int32) (a4 : Int32) (a5 : Int32) (M : sp_Mem), fX1_playNights_l11 F o1 kx n a3 a4 a5 M = some p → sp_fr [4, 3, (o1 + 3), (o1 + 2), (o1 + 10), (o1 + 5)] ([(77, 6)] : List (Nat × Nat)) M p.2 := by
  intro n
  induction n with
  | zero =>
    intro a3 a4 a5 M h
    rw [fX1_playNights_l11] at h
    cases h
  | succ n ih =>
    intro a3 a4 a5 M h
    rw [fX1_playNights_l11] at h
    by_cases hc2 : a3 ≤ a5
    · have h := (if_pos hc2).symm.trans h
      exact hx _ _ h
    · have h := (if_neg hc2).symm.trans h
      by_cases hc3 : 999 ≤ (sp_I M (o1 + 10) 0)
      · have h := (if_pos hc3).symm.trans h
        exact hx _ _ h
      · have h := (if_neg hc3).symm.trans h
        obtain ⟨x4, hx4, h⟩ := Option.bind_eq_some_iff.mp h
        refine sp_fr.tr (sp_fr.mono (by first | decide | simp) (by first | decide | simp) (frX1_draw hx4)) ?_
        obtain ⟨x5, hx5, h⟩ := Option.bind_eq_some_iff.mp h
        refine sp_fr.tr (sp_fr.mono (by first | decide | simp) (by first | decide | simp) (frX1_draw hx5)) ?_
        obtain ⟨x6, hx6, h⟩ := Option.bind_eq_some_iff.mp h
        refine sp_fr.tr (sp_fr.mono (by first | decide | simp) (by first | decide | simp) (frX1_draw hx6)) ?_
        by_cases hc7 : x6.1 = 0
        · have h := (if_pos hc7).symm.trans h
          obtain ⟨x11, hx11, h⟩ := Option.bind_eq_some_iff.mp h
          refine sp_fr.tr (sp_fr.mono (by first | decide | simp) (by first | decide | simp) (frX6_callSpark hx11)) ?_
          by_cases hc12 : x11.1 < 0
          · have h := (if_pos hc12).symm.trans h
            exact frX1_playNights_j82 ih hx _ _ _ _ _ _ _ h
          · have h := (if_neg hc12).symm.trans h
            exact frX1_playNights_j101 ih hx _ _ _ _ h
        · have h := (if_neg hc7).symm.trans h
          exact frX1_playNights_j82 ih hx _ _ _ _ _ _ _ h
set_option maxRecDepth 100000 in
theorem frX1_playNights {F : Nat} {o1 : Nat} {p : (Int32 × sp_Mem)} {M : sp_Mem} {a2 : Int32} {a3 : Int32} (h : fX1_playNights F M o1 a2 a3 = some p) : sp_fr [4, 3, (o1 + 3), (o1 + 2), (o1 + 10), (o1 + 5)] ([(77, 6)] : List (Nat × Nat)) M p.2 := by
  unfold fX1_playNights at h
  obtain ⟨M1, hM1, h⟩ := sp_do_e h
  refine sp_fr.tr (sp_fr_I (Or.inr (by first | decide | simp)) hM1) ?_
  refine frX1_playNights_l11 (fun b14 M13 h => ?_) F _ _ _ _ h
  cases h
  exact sp_fr.refl _ _ _
set_option maxRecDepth 100000 in
theorem frX9_clear {o0 : Nat} {p : sp_Mem} {M : sp_Mem} (h : fX9_clear M o0 = some p) : sp_fr [] ([(o0, 2), (o0, 3)] : List (Nat × Nat)) M p := by
  unfold fX9_clear at h
  obtain ⟨M1, hM1, h⟩ := sp_do_e h
  refine sp_fr.tr (sp_fr_I (Or.inr (by first | decide | simp)) hM1) ?_
  obtain ⟨M2, hM2, h⟩ := sp_do_e h
  refine sp_fr.tr (sp_fr_I (Or.inr (by first | decide | simp)) hM2) ?_
  cases h
  exact sp_fr.refl _ _ _
set_option maxRecDepth 100000 in
theorem frX8_toNext_l8 {F : Nat} {kx : sp_Mem → Option sp_Mem} {p : sp_Mem} (hx : ∀  (M : sp_Mem), kx M = some p → sp_fr [] ([(94, 3), (94, 2), (94, 4)] : List (Nat × Nat)) M p) : ∀ (n : Nat)  (M : sp_Mem), fX8_toNext_l8 F kx n M = some p → sp_fr [] ([(94, 3), (94, 2), (94, 4)] : List (Nat × Nat)) M p := by
  intro n
  induction n with
  | zero =>
    intro M h
    rw [fX8_toNext_l8] at h
    cases h
  | succ n ih =>
    intro M h
    rw [fX8_toNext_l8] at h
    by_cases hc2 : (sp_I M 94 1) ≤ (sp_I M 94 3)
    · have h := (if_pos hc2).symm.trans h
      exact hx _ h
    · have h := (if_neg hc2).symm.trans h
      obtain ⟨j3, hj3, h⟩ := Option.bind_eq_some_iff.mp h
      by_cases hc4 : (sp_I M 95 j3) = 32
      · have h := (if_pos hc4).symm.trans h
        obtain ⟨M5, hM5, h⟩ := sp_do_e h
        refine sp_fr.tr (sp_fr_I (Or.inr (by first | decide | simp)) hM5) ?_
        exact ih _ h
      · have h := (if_neg hc4).symm.trans h
        exact hx _ h
set_option maxRecDepth 100000 in
theorem frX8_toNext_l94 {F : Nat} {kx : sp_Mem → Option sp_Mem} {p : sp_Mem} (hx : ∀  (M : sp_Mem), kx M = some p → sp_fr [] ([(94, 3), (94, 2), (94, 4)] : List (Nat × Nat)) M p) : ∀ (n : Nat)  (M : sp_Mem), fX8_toNext_l94 F kx n M = some p → sp_fr [] ([(94, 3), (94, 2), (94, 4)] : List (Nat × Nat)) M p := by
  intro n
  induction n with
  | zero =>
    intro M h
    rw [fX8_toNext_l94] at h
    cases h
  | succ n ih =>
    intro M h
    rw [fX8_toNext_l94] at h
    by_cases hc11 : (sp_I M 94 1) ≤ (sp_I M 94 4)
    · have h := (if_pos hc11).symm.trans h
      exact hx _ h
    · have h := (if_neg hc11).symm.trans h
      obtain ⟨j12, hj12, h⟩ := Option.bind_eq_some_iff.mp h
      by_cases hc13 : (fX8_sortOf (sp_I M 95 j12)) = (sp_I M 94 2)
      · have h := (if_pos hc13).symm.trans h
        obtain ⟨M14, hM14, h⟩ := sp_do_e h
        refine sp_fr.tr (sp_fr_I (Or.inr (by first | decide | simp)) hM14) ?_
        exact ih _ h
      · have h := (if_neg hc13).symm.trans h
        exact hx _ h
set_option maxRecDepth 100000 in
theorem frX8_toNext_j46 {F : Nat} {p : sp_Mem} (M : sp_Mem) (h : fX8_toNext_j46 F M = some p) : sp_fr [] ([(94, 3), (94, 2), (94, 4)] : List (Nat × Nat)) M p := by
  unfold fX8_toNext_j46 at h
  obtain ⟨v7, hv7, h⟩ := Option.bind_eq_some_iff.mp h
  obtain ⟨M8, hM8, h⟩ := sp_do_e h
  refine sp_fr.tr (sp_fr_I (Or.inr (by first | decide | simp)) hM8) ?_
  obtain ⟨M9, hM9, h⟩ := sp_do_e h
  refine sp_fr.tr (sp_fr_I (Or.inr (by first | decide | simp)) hM9) ?_
  by_cases hc10 : (sp_I M9 94 2) = 1
  · have h := (if_pos hc10).symm.trans h
    refine frX8_toNext_l94 (fun M15 h => ?_) F _ h
    cases h
    exact sp_fr.refl _ _ _
  · have h := (if_neg hc10).symm.trans h
    by_cases hc16 : (sp_I M9 94 2) = 2
    · have h := (if_pos hc16).symm.trans h
      refine frX8_toNext_l94 (fun M17 h => ?_) F _ h
      cases h
      exact sp_fr.refl _ _ _
    · have h := (if_neg hc16).symm.trans h
      cases h
      exact sp_fr.refl _ _ _
set_option maxRecDepth 100000 in
theorem frX8_toNext {F : Nat} {p : sp_Mem} {M : sp_Mem} (h : fX8_toNext F M = some p) : sp_fr [] ([(94, 3), (94, 2), (94, 4)] : List (Nat × Nat)) M p := by
  unfold fX8_toNext at h
  obtain ⟨M1, hM1, h⟩ := sp_do_e h
  refine sp_fr.tr (sp_fr_I (Or.inr (by first | decide | simp)) hM1) ?_
  refine frX8_toNext_l8 (fun M6 h => ?_) F _ h
  exact frX8_toNext_j46 _ h
set_option maxRecDepth 100000 in
theorem frX8_toFirst {F : Nat} {p : sp_Mem} {M : sp_Mem} (h : fX8_toFirst F M = some p) : sp_fr [] ([(94, 4), (94, 3), (94, 2)] : List (Nat × Nat)) M p := by
  unfold fX8_toFirst at h
  obtain ⟨M1, hM1, h⟩ := sp_do_e h
  refine sp_fr.tr (sp_fr_I (Or.inr (by first | decide | simp)) hM1) ?_
  obtain ⟨M2, hM2, h⟩ := Option.bind_eq_some_iff.mp h
  refine sp_fr.tr (sp_fr.mono (by first | decide | simp) (by first | decide | simp) (frX8_toNext hM2)) ?_
  cases h
  exact sp_fr.refl _ _ _
set_option maxRecDepth 100000 in
theorem frX9_addClause {o0 : Nat} {p : sp_Mem} {M : sp_Mem} {a1 : Int32} (h : fX9_addClause M o0 a1 = some p) : sp_fr [(o0 + 1)] ([(o0, 2)] : List (Nat × Nat)) M p := by
  unfold fX9_addClause at h
  obtain ⟨u1, hu1, h⟩ := sp_do_e h
  by_cases hc2 : (Int32.ofNat (sp_N M (o0 + 1))) < (u1 + 5)
  · have h := (if_pos hc2).symm.trans h
    cases h
    exact sp_fr.refl _ _ _
  · have h := (if_neg hc2).symm.trans h
    obtain ⟨j3, hj3, h⟩ := Option.bind_eq_some_iff.mp h
    obtain ⟨M4, hM4, h⟩ := sp_do_e h
    refine sp_fr.tr (sp_fr_I (Or.inl (by first | decide | simp)) hM4) ?_
    obtain ⟨j5, hj5, h⟩ := Option.bind_eq_some_iff.mp h
    obtain ⟨M6, hM6, h⟩ := sp_do_e h
    refine sp_fr.tr (sp_fr_I (Or.inl (by first | decide | simp)) hM6) ?_
    obtain ⟨j7, hj7, h⟩ := Option.bind_eq_some_iff.mp h
    obtain ⟨M8, hM8, h⟩ := sp_do_e h
    refine sp_fr.tr (sp_fr_I (Or.inl (by first | decide | simp)) hM8) ?_
    obtain ⟨j9, hj9, h⟩ := Option.bind_eq_some_iff.mp h
    obtain ⟨M10, hM10, h⟩ := sp_do_e h
    refine sp_fr.tr (sp_fr_I (Or.inl (by first | decide | simp)) hM10) ?_
    obtain ⟨j11, hj11, h⟩ := Option.bind_eq_some_iff.mp h
    obtain ⟨M12, hM12, h⟩ := sp_do_e h
    refine sp_fr.tr (sp_fr_I (Or.inl (by first | decide | simp)) hM12) ?_
    obtain ⟨M13, hM13, h⟩ := sp_do_e h
    refine sp_fr.tr (sp_fr_I (Or.inr (by first | decide | simp)) hM13) ?_
    cases h
    exact sp_fr.refl _ _ _
set_option maxRecDepth 100000 in
theorem frX9_setSlot {o0 : Nat} {p : sp_Mem} {M : sp_Mem} {a1 : Int32} {a2 : Int32} (h : fX9_setSlot M o0 a1 a2 = some p) : sp_fr [(o0 + 1)] ([] : List (Nat × Nat)) M p := by
  unfold fX9_setSlot at h
  obtain ⟨u1, hu1, h⟩ := sp_do_e h
  by_cases hc2 : u1 < 0
  · have h := (if_pos hc2).symm.trans h
    cases h
    exact sp_fr.refl _ _ _
  · have h := (if_neg hc2).symm.trans h
    by_cases hc3 : (Int32.ofNat (sp_N M (o0 + 1))) ≤ u1
    · have h := (if_pos hc3).symm.trans h
      cases h
      exact sp_fr.refl _ _ _
    · have h := (if_neg hc3).symm.trans h
      obtain ⟨j4, hj4, h⟩ := Option.bind_eq_some_iff.mp h
      obtain ⟨M5, hM5, h⟩ := sp_do_e h
      refine sp_fr.tr (sp_fr_I (Or.inl (by first | decide | simp)) hM5) ?_
      cases h
      exact sp_fr.refl _ _ _
set_option maxRecDepth 100000 in
theorem frX2_push {p : (Int32 × sp_Mem)} {M : sp_Mem} {a1 : Int32} (h : fX2_push M a1 = some p) : sp_fr [100] ([(96, 4)] : List (Nat × Nat)) M p.2 := by
  unfold fX2_push at h
  by_cases hc1 : (sp_I M 96 4) < 160
  · have h := (if_pos hc1).symm.trans h
    obtain ⟨j2, hj2, h⟩ := Option.bind_eq_some_iff.mp h
    obtain ⟨M3, hM3, h⟩ := sp_do_e h
    refine sp_fr.tr (sp_fr_I (Or.inl (by first | decide | simp)) hM3) ?_
    obtain ⟨M4, hM4, h⟩ := sp_do_e h
    refine sp_fr.tr (sp_fr_I (Or.inr (by first | decide | simp)) hM4) ?_
    cases h
    exact sp_fr.refl _ _ _
  · have h := (if_neg hc1).symm.trans h
    cases h
    exact sp_fr.refl _ _ _
set_option maxRecDepth 100000 in
theorem frX2_opens_j136 {F : Nat} {p : (Int32 × sp_Mem)} (a1 : Int32) (M : sp_Mem) (h : fX2_opens_j136 F a1 M = some p) : sp_fr [100] ([(96, 4), (96, 5), (94, 3), (94, 2), (94, 4)] : List (Nat × Nat)) M p.2 := by
  unfold fX2_opens_j136 at h
  obtain ⟨M15, hM15, h⟩ := sp_do_e h
  refine sp_fr.tr (sp_fr_I (Or.inr (by first | decide | simp)) hM15) ?_
  obtain ⟨M16, hM16, h⟩ := Option.bind_eq_some_iff.mp h
  refine sp_fr.tr (sp_fr.mono (by first | decide | simp) (by first | decide | simp) (frX8_toNext hM16)) ?_
  cases h
  exact sp_fr.refl _ _ _
set_option maxRecDepth 100000 in
theorem frX2_opens_j128 {F : Nat} {p : (Int32 × sp_Mem)} (a1 : Int32) (s0 : Int32) (M : sp_Mem) (h : fX2_opens_j128 F a1 s0 M = some p) : sp_fr [100] ([(96, 4), (96, 5), (94, 3), (94, 2), (94, 4)] : List (Nat × Nat)) M p.2 := by
  unfold fX2_opens_j128 at h
  obtain ⟨x12, hx12, h⟩ := Option.bind_eq_some_iff.mp h
  refine sp_fr.tr (sp_fr.mono (by first | decide | simp) (by first | decide | simp) (frX2_push hx12)) ?_
  by_cases hc13 : x12.1 = 0
  · have h := (if_pos hc13).symm.trans h
    cases h
    exact sp_fr.refl _ _ _
  · have h := (if_neg hc13).symm.trans h
    exact frX2_opens_j136 _ _ h
set_option maxRecDepth 100000 in
theorem frX2_opens_j107 {F : Nat} {p : (Int32 × sp_Mem)} (a1 : Int32) (a2 : Int32) (M : sp_Mem) (h : fX2_opens_j107 F a1 a2 M = some p) : sp_fr [100] ([(96, 4), (96, 5), (94, 3), (94, 2), (94, 4)] : List (Nat × Nat)) M p.2 := by
  unfold fX2_opens_j107 at h
  exact frX2_opens_j128 _ _ _ h
set_option maxRecDepth 100000 in
theorem frX2_opens_j94 {F : Nat} {p : (Int32 × sp_Mem)} (a1 : Int32) (a2 : Int32) (M : sp_Mem) (h : fX2_opens_j94 F a1 a2 M = some p) : sp_fr [100] ([(96, 4), (96, 5), (94, 3), (94, 2), (94, 4)] : List (Nat × Nat)) M p.2 := by
  unfold fX2_opens_j94 at h
  by_cases hc9 : a1 = 0
  · have h := (if_pos hc9).symm.trans h
    by_cases hc17 : 8 ≤ (sp_I M 96 5)
    · have h := (if_pos hc17).symm.trans h
      cases h
      exact sp_fr.refl _ _ _
    · have h := (if_neg hc17).symm.trans h
      exact frX2_opens_j107 _ _ _ h
  · have h := (if_neg hc9).symm.trans h
    exact frX2_opens_j107 _ _ _ h
set_option maxRecDepth 100000 in
theorem frX2_opens_j68 {F : Nat} {p : (Int32 × sp_Mem)} (a1 : Int32) (a2 : Int32) (M : sp_Mem) (h : fX2_opens_j68 F a1 a2 M = some p) : sp_fr [100] ([(96, 4), (96, 5), (94, 3), (94, 2), (94, 4)] : List (Nat × Nat)) M p.2 := by
  unfold fX2_opens_j68 at h
  by_cases hc8 : a1 = 0
  · have h := (if_pos hc8).symm.trans h
    exact frX2_opens_j94 _ _ _ h
  · have h := (if_neg hc8).symm.trans h
    obtain ⟨v18, hv18, h⟩ := Option.bind_eq_some_iff.mp h
    by_cases hc19 : v18 = 11
    · have h := (if_pos hc19).symm.trans h
      obtain ⟨M20, hM20, h⟩ := sp_do_e h
      refine sp_fr.tr (sp_fr_I (Or.inr (by first | decide | simp)) hM20) ?_
      exact frX2_opens_j136 _ _ h
    · have h := (if_neg hc19).symm.trans h
      exact frX2_opens_j94 _ _ _ h
set_option maxRecDepth 100000 in
theorem frX2_opens_j59 {F : Nat} {p : (Int32 × sp_Mem)} (a1 : Int32) (a2 : Int32) (M : sp_Mem) (h : fX2_opens_j59 F a1 a2 M = some p) : sp_fr [100] ([(96, 4), (96, 5), (94, 3), (94, 2), (94, 4)] : List (Nat × Nat)) M p.2 := by
  unfold fX2_opens_j59 at h
  obtain ⟨v6, hv6, h⟩ := Option.bind_eq_some_iff.mp h
  by_cases hc7 : v6 = 0
  · have h := (if_pos hc7).symm.trans h
    cases h
    exact sp_fr.refl _ _ _
  · have h := (if_neg hc7).symm.trans h
    exact frX2_opens_j68 _ _ _ h
set_option maxRecDepth 100000 in
theorem frX2_opens_j51 {F : Nat} {p : (Int32 × sp_Mem)} (a1 : Int32) (a2 : Int32) (M : sp_Mem) (h : fX2_opens_j51 F a1 a2 M = some p) : sp_fr [100] ([(96, 4), (96, 5), (94, 3), (94, 2), (94, 4)] : List (Nat × Nat)) M p.2 := by
  unfold fX2_opens_j51 at h
  by_cases hc5 : a1 = 0
  · have h := (if_pos hc5).symm.trans h
    by_cases hc21 : a2 = 0
    · have h := (if_pos hc21).symm.trans h
      exact frX2_opens_j68 _ _ _ h
    · have h := (if_neg hc21).symm.trans h
      exact frX2_opens_j59 _ _ _ h
  · have h := (if_neg hc5).symm.trans h
    exact frX2_opens_j59 _ _ _ h
set_option maxRecDepth 100000 in
theorem frX2_opens_j18 {F : Nat} {p : (Int32 × sp_Mem)} (s0 : Int32) (M : sp_Mem) (h : fX2_opens_j18 F s0 M = some p) : sp_fr [100] ([(96, 4), (96, 5), (94, 3), (94, 2), (94, 4)] : List (Nat × Nat)) M p.2 := by
  unfold fX2_opens_j18 at h
  obtain ⟨v3, hv3, h⟩ := Option.bind_eq_some_iff.mp h
  by_cases hc4 : s0 = 0
  · have h := (if_pos hc4).symm.trans h
    by_cases hc22 : v3 = 0
    · have h := (if_pos hc22).symm.trans h
      obtain ⟨v23, hv23, h⟩ := Option.bind_eq_some_iff.mp h
      by_cases hc24 : v23 = 0
      · have h := (if_pos hc24).symm.trans h
        cases h
        exact sp_fr.refl _ _ _
      · have h := (if_neg hc24).symm.trans h
        exact frX2_opens_j51 _ _ _ h
    · have h := (if_neg hc22).symm.trans h
      exact frX2_opens_j51 _ _ _ h
  · have h := (if_neg hc4).symm.trans h
    exact frX2_opens_j51 _ _ _ h
set_option maxRecDepth 100000 in
theorem frX2_opens {F : Nat} {p : (Int32 × sp_Mem)} {M : sp_Mem} (h : fX2_opens F M = some p) : sp_fr [100] ([(96, 4), (96, 5), (94, 3), (94, 2), (94, 4)] : List (Nat × Nat)) M p.2 := by
  unfold fX2_opens at h
  obtain ⟨v1, hv1, h⟩ := Option.bind_eq_some_iff.mp h
  exact frX2_opens_j18 _ _ h
set_option maxRecDepth 100000 in
theorem frX9_addStep {o0 : Nat} {p : sp_Mem} {M : sp_Mem} {a1 : Int32} {a2 : Int32} (h : fX9_addStep M o0 a1 a2 = some p) : sp_fr [(o0 + 2)] ([(o0, 3)] : List (Nat × Nat)) M p := by
  unfold fX9_addStep at h
  by_cases hc1 : (Int32.ofNat (sp_N M (o0 + 2))) ≤ (sp_I M o0 3)
  · have h := (if_pos hc1).symm.trans h
    cases h
    exact sp_fr.refl _ _ _
  · have h := (if_neg hc1).symm.trans h
    obtain ⟨j2, hj2, h⟩ := Option.bind_eq_some_iff.mp h
    obtain ⟨M3, hM3, h⟩ := sp_do_e h
    refine sp_fr.tr (sp_fr_I (Or.inl (by first | decide | simp)) hM3) ?_
    obtain ⟨M4, hM4, h⟩ := sp_do_e h
    refine sp_fr.tr (sp_fr_I (Or.inr (by first | decide | simp)) hM4) ?_
    cases h
    exact sp_fr.refl _ _ _
set_option maxRecDepth 100000 in
theorem frX2_readPart_j136 {F : Nat} {p : (Int32 × sp_Mem)} (M : sp_Mem) (h : fX2_readPart_j136 F M = some p) : sp_fr [99] ([(97, 3), (96, 6), (96, 8), (94, 3), (94, 2), (94, 4)] : List (Nat × Nat)) M p.2 := by
  unfold fX2_readPart_j136 at h
  obtain ⟨M6, hM6, h⟩ := sp_do_e h
  refine sp_fr.tr (sp_fr_I (Or.inr (by first | decide | simp)) hM6) ?_
  obtain ⟨M7, hM7, h⟩ := sp_do_e h
  refine sp_fr.tr (sp_fr_I (Or.inr (by first | decide | simp)) hM7) ?_
  obtain ⟨M8, hM8, h⟩ := Option.bind_eq_some_iff.mp h
  refine sp_fr.tr (sp_fr.mono (by first | decide | simp) (by first | decide | simp) (frX8_toNext hM8)) ?_
  cases h
  exact sp_fr.refl _ _ _
set_option maxRecDepth 100000 in
theorem frX2_readPart_j106 {F : Nat} {p : (Int32 × sp_Mem)} (a2 : Int32) (M : sp_Mem) (h : fX2_readPart_j106 F a2 M = some p) : sp_fr [99] ([(97, 3), (96, 6), (96, 8), (94, 3), (94, 2), (94, 4)] : List (Nat × Nat)) M p.2 := by
  unfold fX2_readPart_j106 at h
  obtain ⟨M13, hM13, h⟩ := Option.bind_eq_some_iff.mp h
  refine sp_fr.tr (sp_fr.mono (by first | decide | simp) (by first | decide | simp) (frX9_addStep hM13)) ?_
  exact frX2_readPart_j136 _ h
set_option maxRecDepth 100000 in
theorem frX2_readPart_j45 {F : Nat} {p : (Int32 × sp_Mem)} (M : sp_Mem) (h : fX2_readPart_j45 F M = some p) : sp_fr [99] ([(97, 3), (96, 6), (96, 8), (94, 3), (94, 2), (94, 4)] : List (Nat × Nat)) M p.2 := by
  unfold fX2_readPart_j45 at h
  obtain ⟨v10, hv10, h⟩ := Option.bind_eq_some_iff.mp h
  by_cases hc11 : v10 = (-1)
  · have h := (if_pos hc11).symm.trans h
    cases h
    exact sp_fr.refl _ _ _
  · have h := (if_neg hc11).symm.trans h
    by_cases hc12 : (sp_I M 96 7) = 0
    · have h := (if_pos hc12).symm.trans h
      exact frX2_readPart_j106 _ _ h
    · have h := (if_neg hc12).symm.trans h
      by_cases hc14 : v10 < 4
      · have h := (if_pos hc14).symm.trans h
        exact frX2_readPart_j106 _ _ h
      · have h := (if_neg hc14).symm.trans h
        obtain ⟨M15, hM15, h⟩ := Option.bind_eq_some_iff.mp h
        refine sp_fr.tr (sp_fr.mono (by first | decide | simp) (by first | decide | simp) (frX8_toNext hM15)) ?_
        obtain ⟨v16, hv16, h⟩ := Option.bind_eq_some_iff.mp h
        by_cases hc17 : (fX10_isWithin v16 0 5) = 0
        · have h := (if_pos hc17).symm.trans h
          cases h
          exact sp_fr.refl _ _ _
        · have h := (if_neg hc17).symm.trans h
          obtain ⟨u18, hu18, h⟩ := sp_do_e h
          exact frX2_readPart_j106 _ _ h
set_option maxRecDepth 100000 in
theorem frX2_readPart_j45_3 {F : Nat} {p : (Int32 × sp_Mem)} (M : sp_Mem) (h : fX2_readPart_j45_3 F M = some p) : sp_fr [99] ([(97, 3), (96, 6), (96, 8), (94, 3), (94, 2), (94, 4)] : List (Nat × Nat)) M p.2 := by
  unfold fX2_readPart_j45_3 at h
  obtain ⟨v19, hv19, h⟩ := Option.bind_eq_some_iff.mp h
  by_cases hc20 : v19 = (-1)
  · have h := (if_pos hc20).symm.trans h
    cases h
    exact sp_fr.refl _ _ _
  · have h := (if_neg hc20).symm.trans h
    by_cases hc21 : (sp_I M 96 7) = 0
    · have h := (if_pos hc21).symm.trans h
      exact frX2_readPart_j106 _ _ h
    · have h := (if_neg hc21).symm.trans h
      by_cases hc22 : v19 < 4
      · have h := (if_pos hc22).symm.trans h
        exact frX2_readPart_j106 _ _ h
      · have h := (if_neg hc22).symm.trans h
        obtain ⟨M23, hM23, h⟩ := Option.bind_eq_some_iff.mp h
        refine sp_fr.tr (sp_fr.mono (by first | decide | simp) (by first | decide | simp) (frX8_toNext hM23)) ?_
        obtain ⟨v24, hv24, h⟩ := Option.bind_eq_some_iff.mp h
        by_cases hc25 : (fX10_isWithin v24 0 5) = 0
        · have h := (if_pos hc25).symm.trans h
          cases h
          exact sp_fr.refl _ _ _
        · have h := (if_neg hc25).symm.trans h
          obtain ⟨u26, hu26, h⟩ := sp_do_e h
          exact frX2_readPart_j106 _ _ h
set_option maxRecDepth 100000 in
theorem frX2_readPart {F : Nat} {p : (Int32 × sp_Mem)} {M : sp_Mem} (h : fX2_readPart F M = some p) : sp_fr [99] ([(97, 3), (96, 6), (96, 8), (94, 3), (94, 2), (94, 4)] : List (Nat × Nat)) M p.2 := by
  unfold fX2_readPart at h
  by_cases hc1 : (sp_I M 96 6) < 50
  · have h := (if_pos hc1).symm.trans h
    obtain ⟨v2, hv2, h⟩ := Option.bind_eq_some_iff.mp h
    by_cases hc3 : v2 = (-1)
    · have h := (if_pos hc3).symm.trans h
      by_cases hc9 : (sp_I M 96 7) = 0
      · have h := (if_pos hc9).symm.trans h
        exact frX2_readPart_j45 _ h
      · have h := (if_neg hc9).symm.trans h
        exact frX2_readPart_j45_3 _ h
    · have h := (if_neg hc3).symm.trans h
      by_cases hc4 : v2 ≤ 1000
      · have h := (if_pos hc4).symm.trans h
        obtain ⟨M5, hM5, h⟩ := Option.bind_eq_some_iff.mp h
        refine sp_fr.tr (sp_fr.mono (by first | decide | simp) (by first | decide | simp) (frX9_addStep hM5)) ?_
        exact frX2_readPart_j136 _ h
      · have h := (if_neg hc4).symm.trans h
        cases h
        exact sp_fr.refl _ _ _
  · have h := (if_neg hc1).symm.trans h
    cases h
    exact sp_fr.refl _ _ _
set_option maxRecDepth 100000 in
theorem frX9_aimHere {o0 : Nat} {p : sp_Mem} {M : sp_Mem} {a1 : Int32} (h : fX9_aimHere M o0 a1 = some p) : sp_fr [(o0 + 2)] ([] : List (Nat × Nat)) M p := by
  unfold fX9_aimHere at h
  by_cases hc1 : a1 < 0
  · have h := (if_pos hc1).symm.trans h
    cases h
    exact sp_fr.refl _ _ _
  · have h := (if_neg hc1).symm.trans h
    by_cases hc2 : (sp_I M o0 3) ≤ a1
    · have h := (if_pos hc2).symm.trans h
      cases h
      exact sp_fr.refl _ _ _
    · have h := (if_neg hc2).symm.trans h
      obtain ⟨j3, hj3, h⟩ := Option.bind_eq_some_iff.mp h
      obtain ⟨j4, hj4, h⟩ := Option.bind_eq_some_iff.mp h
      obtain ⟨M5, hM5, h⟩ := sp_do_e h
      refine sp_fr.tr (sp_fr_I (Or.inl (by first | decide | simp)) hM5) ?_
      cases h
      exact sp_fr.refl _ _ _
set_option maxRecDepth 100000 in
theorem frX2_fold_j35 {F : Nat} {kb : Int32 → sp_Mem → Option sp_Mem} {kx : sp_Mem → Option sp_Mem} {p : sp_Mem} (hb : ∀ (a1 : Int32) (M : sp_Mem), kb a1 M = some p → sp_fr [99] ([(96, 4), (97, 3)] : List (Nat × Nat)) M p) (hx : ∀  (M : sp_Mem), kx M = some p → sp_fr [99] ([(96, 4), (97, 3)] : List (Nat × Nat)) M p) (a1 : Int32) (M : sp_Mem) (h : fX2_fold_j35 F kb kx a1 M = some p) : sp_fr [99] ([(96, 4), (97, 3)] : List (Nat × Nat)) M p := by
  unfold fX2_fold_j35 at h
  obtain ⟨j6, hj6, h⟩ := Option.bind_eq_some_iff.mp h
  obtain ⟨M7, hM7, h⟩ := Option.bind_eq_some_iff.mp h
  refine sp_fr.tr (sp_fr.mono (by first | decide | simp) (by first | decide | simp) (frX9_aimHere hM7)) ?_
  obtain ⟨M8, hM8, h⟩ := sp_do_e h
  refine sp_fr.tr (sp_fr_I (Or.inr (by first | decide | simp)) hM8) ?_
  exact hb _ _ h
set_option maxRecDepth 100000 in
theorem frX2_fold_l0 {F : Nat} {kx : sp_Mem → Option sp_Mem} {p : sp_Mem} (hx : ∀  (M : sp_Mem), kx M = some p → sp_fr [99] ([(96, 4), (97, 3)] : List (Nat × Nat)) M p) : ∀ (n : Nat) (a1 : Int32) (M : sp_Mem), fX2_fold_l0 F kx n a1 M = some p → sp_fr [99] ([(96, 4), (97, 3)] : List (Nat × Nat)) M p := by
  intro n
  induction n with
  | zero =>
    intro a1 M h
    rw [fX2_fold_l0] at h
    cases h
  | succ n ih =>
    intro a1 M h
    rw [fX2_fold_l0] at h
    by_cases hc1 : (sp_I M 96 4) ≤ 0
    · have h := (if_pos hc1).symm.trans h
      exact hx _ h
    · have h := (if_neg hc1).symm.trans h
      obtain ⟨v2, hv2, h⟩ := Option.bind_eq_some_iff.mp h
      by_cases hc3 : (fX2_bindingOf v2) < a1
      · have h := (if_pos hc3).symm.trans h
        exact hx _ h
      · have h := (if_neg hc3).symm.trans h
        obtain ⟨v4, hv4, h⟩ := Option.bind_eq_some_iff.mp h
        by_cases hc5 : v4 = 12
        · have h := (if_pos hc5).symm.trans h
          exact frX2_fold_j35 ih hx _ _ h
        · have h := (if_neg hc5).symm.trans h
          by_cases hc9 : v4 = 13
          · have h := (if_pos hc9).symm.trans h
            exact frX2_fold_j35 ih hx _ _ h
          · have h := (if_neg hc9).symm.trans h
            obtain ⟨M10, hM10, h⟩ := Option.bind_eq_some_iff.mp h
            refine sp_fr.tr (sp_fr.mono (by first | decide | simp) (by first | decide | simp) (frX9_addStep hM10)) ?_
            obtain ⟨M11, hM11, h⟩ := sp_do_e h
            refine sp_fr.tr (sp_fr_I (Or.inr (by first | decide | simp)) hM11) ?_
            exact ih _ _ h
set_option maxRecDepth 100000 in
theorem frX2_fold {F : Nat} {p : sp_Mem} {M : sp_Mem} {a1 : Int32} (h : fX2_fold F M a1 = some p) : sp_fr [99] ([(96, 4), (97, 3)] : List (Nat × Nat)) M p := by
  unfold fX2_fold at h
  refine frX2_fold_l0 (fun M12 h => ?_) F _ _ h
  cases h
  exact sp_fr.refl _ _ _
set_option maxRecDepth 100000 in
theorem frX2_isTest {F : Nat} {p : (Int32 × sp_Mem)} {M : sp_Mem} (h : fX2_isTest F M = some p) : sp_fr [99] ([(96, 4), (97, 3)] : List (Nat × Nat)) M p.2 := by
  unfold fX2_isTest at h
  obtain ⟨M1, hM1, h⟩ := Option.bind_eq_some_iff.mp h
  refine sp_fr.tr (sp_fr.mono (by first | decide | simp) (by first | decide | simp) (frX2_fold hM1)) ?_
  by_cases hc2 : (sp_I M1 96 8) = 0
  · have h := (if_pos hc2).symm.trans h
    obtain ⟨v3, hv3, h⟩ := Option.bind_eq_some_iff.mp h
    cases h
    exact sp_fr.refl _ _ _
  · have h := (if_neg hc2).symm.trans h
    cases h
    exact sp_fr.refl _ _ _
set_option maxRecDepth 100000 in
theorem frX2_joins_j103 {F : Nat} {p : (Int32 × sp_Mem)} (a1 : Int32) (M : sp_Mem) (h : fX2_joins_j103 F a1 M = some p) : sp_fr [99, 100, 101] ([(96, 4), (97, 3), (94, 3), (94, 2), (94, 4)] : List (Nat × Nat)) M p.2 := by
  unfold fX2_joins_j103 at h
  obtain ⟨j12, hj12, h⟩ := Option.bind_eq_some_iff.mp h
  obtain ⟨M13, hM13, h⟩ := sp_do_e h
  refine sp_fr.tr (sp_fr_I (Or.inl (by first | decide | simp)) hM13) ?_
  obtain ⟨M14, hM14, h⟩ := Option.bind_eq_some_iff.mp h
  refine sp_fr.tr (sp_fr.mono (by first | decide | simp) (by first | decide | simp) (frX9_addStep hM14)) ?_
  obtain ⟨M15, hM15, h⟩ := Option.bind_eq_some_iff.mp h
  refine sp_fr.tr (sp_fr.mono (by first | decide | simp) (by first | decide | simp) (frX8_toNext hM15)) ?_
  cases h
  exact sp_fr.refl _ _ _
set_option maxRecDepth 100000 in
theorem frX2_joins_j83 {F : Nat} {p : (Int32 × sp_Mem)} (a1 : Int32) (a2 : Int32) (M : sp_Mem) (h : fX2_joins_j83 F a1 a2 M = some p) : sp_fr [99, 100, 101] ([(96, 4), (97, 3), (94, 3), (94, 2), (94, 4)] : List (Nat × Nat)) M p.2 := by
  unfold fX2_joins_j83 at h
  obtain ⟨x9, hx9, h⟩ := Option.bind_eq_some_iff.mp h
  refine sp_fr.tr (sp_fr.mono (by first | decide | simp) (by first | decide | simp) (frX2_push hx9)) ?_
  by_cases hc10 : x9.1 = 0
  · have h := (if_pos hc10).symm.trans h
    cases h
    exact sp_fr.refl _ _ _
  · have h := (if_neg hc10).symm.trans h
    by_cases hc11 : a2 = 2
    · have h := (if_pos hc11).symm.trans h
      exact frX2_joins_j103 _ _ h
    · have h := (if_neg hc11).symm.trans h
      by_cases hc16 : a2 = 1
      · have h := (if_pos hc16).symm.trans h
        exact frX2_joins_j103 _ _ h
      · have h := (if_neg hc16).symm.trans h
        obtain ⟨M17, hM17, h⟩ := Option.bind_eq_some_iff.mp h
        refine sp_fr.tr (sp_fr.mono (by first | decide | simp) (by first | decide | simp) (frX8_toNext hM17)) ?_
        cases h
        exact sp_fr.refl _ _ _
set_option maxRecDepth 100000 in
theorem frX2_joins_j66 {F : Nat} {p : (Int32 × sp_Mem)} (a1 : Int32) (a2 : Int32) (M : sp_Mem) (h : fX2_joins_j66 F a1 a2 M = some p) : sp_fr [99, 100, 101] ([(96, 4), (97, 3), (94, 3), (94, 2), (94, 4)] : List (Nat × Nat)) M p.2 := by
  unfold fX2_joins_j66 at h
  obtain ⟨x6, hx6, h⟩ := Option.bind_eq_some_iff.mp h
  refine sp_fr.tr (sp_fr.mono (by first | decide | simp) (by first | decide | simp) (frX2_isTest hx6)) ?_
  by_cases hc7 : x6.1 = 0
  · have h := (if_pos hc7).symm.trans h
    cases h
    exact sp_fr.refl _ _ _
  · have h := (if_neg hc7).symm.trans h
    obtain ⟨M8, hM8, h⟩ := Option.bind_eq_some_iff.mp h
    refine sp_fr.tr (sp_fr.mono (by first | decide | simp) (by first | decide | simp) (frX2_fold hM8)) ?_
    exact frX2_joins_j83 _ _ _ h
set_option maxRecDepth 100000 in
theorem frX2_joins_j56 {F : Nat} {p : (Int32 × sp_Mem)} (a1 : Int32) (a2 : Int32) (M : sp_Mem) (h : fX2_joins_j56 F a1 a2 M = some p) : sp_fr [99, 100, 101] ([(96, 4), (97, 3), (94, 3), (94, 2), (94, 4)] : List (Nat × Nat)) M p.2 := by
  unfold fX2_joins_j56 at h
  by_cases hc5 : a2 = 2
  · have h := (if_pos hc5).symm.trans h
    exact frX2_joins_j66 _ _ _ h
  · have h := (if_neg hc5).symm.trans h
    by_cases hc18 : a2 = 1
    · have h := (if_pos hc18).symm.trans h
      exact frX2_joins_j66 _ _ _ h
    · have h := (if_neg hc18).symm.trans h
      cases h
      exact sp_fr.refl _ _ _
set_option maxRecDepth 100000 in
theorem frX2_joins_j30 {F : Nat} {p : (Int32 × sp_Mem)} (a1 : Int32) (a2 : Int32) (M : sp_Mem) (h : fX2_joins_j30 F a1 a2 M = some p) : sp_fr [99, 100, 101] ([(96, 4), (97, 3), (94, 3), (94, 2), (94, 4)] : List (Nat × Nat)) M p.2 := by
  unfold fX2_joins_j30 at h
  by_cases hc4 : a2 = 4
  · have h := (if_pos hc4).symm.trans h
    by_cases hc19 : (sp_I M 96 8) = 0
    · have h := (if_pos hc19).symm.trans h
      obtain ⟨M20, hM20, h⟩ := Option.bind_eq_some_iff.mp h
      refine sp_fr.tr (sp_fr.mono (by first | decide | simp) (by first | decide | simp) (frX2_fold hM20)) ?_
      obtain ⟨v21, hv21, h⟩ := Option.bind_eq_some_iff.mp h
      by_cases hc22 : v21 = 0
      · have h := (if_pos hc22).symm.trans h
        cases h
        exact sp_fr.refl _ _ _
      · have h := (if_neg hc22).symm.trans h
        exact frX2_joins_j83 _ _ _ h
    · have h := (if_neg hc19).symm.trans h
      exact frX2_joins_j56 _ _ _ h
  · have h := (if_neg hc4).symm.trans h
    exact frX2_joins_j56 _ _ _ h
set_option maxRecDepth 100000 in
theorem frX2_joins {F : Nat} {p : (Int32 × sp_Mem)} {M : sp_Mem} (h : fX2_joins F M = some p) : sp_fr [99, 100, 101] ([(96, 4), (97, 3), (94, 3), (94, 2), (94, 4)] : List (Nat × Nat)) M p.2 := by
  unfold fX2_joins at h
  obtain ⟨v1, hv1, h⟩ := Option.bind_eq_some_iff.mp h
  obtain ⟨u2, hu2, h⟩ := sp_do_e h
  by_cases hc3 : u2 < 5
  · have h := (if_pos hc3).symm.trans h
    exact frX2_joins_j30 _ _ _ h
  · have h := (if_neg hc3).symm.trans h
    by_cases hc23 : (sp_I M 96 8) = 0
    · have h := (if_pos hc23).symm.trans h
      obtain ⟨M24, hM24, h⟩ := Option.bind_eq_some_iff.mp h
      refine sp_fr.tr (sp_fr.mono (by first | decide | simp) (by first | decide | simp) (frX2_fold hM24)) ?_
      exact frX2_joins_j83 _ _ _ h
    · have h := (if_neg hc23).symm.trans h
      exact frX2_joins_j30 _ _ _ h
set_option maxRecDepth 100000 in
theorem frX2_closes_j66 {F : Nat} {p : (Int32 × sp_Mem)} (a1 : Int32) (s0 : Int32) (s1 : Int32) (M : sp_Mem) (h : fX2_closes_j66 F a1 s0 s1 M = some p) : sp_fr [99] ([(96, 4), (97, 3), (96, 5), (96, 8), (94, 3), (94, 2), (94, 4)] : List (Nat × Nat)) M p.2 := by
  unfold fX2_closes_j66 at h
  by_cases hc9 : s1 = s0
  · have h := (if_pos hc9).symm.trans h
    obtain ⟨M10, hM10, h⟩ := sp_do_e h
    refine sp_fr.tr (sp_fr_I (Or.inr (by first | decide | simp)) hM10) ?_
    obtain ⟨M11, hM11, h⟩ := sp_do_e h
    refine sp_fr.tr (sp_fr_I (Or.inr (by first | decide | simp)) hM11) ?_
    obtain ⟨M12, hM12, h⟩ := sp_do_e h
    refine sp_fr.tr (sp_fr_I (Or.inr (by first | decide | simp)) hM12) ?_
    obtain ⟨_, hz13, h⟩ := Option.bind_eq_some_iff.mp h
    obtain ⟨M14, hM14, h⟩ := Option.bind_eq_some_iff.mp h
    refine sp_fr.tr (sp_fr.mono (by first | decide | simp) (by first | decide | simp) (frX8_toNext hM14)) ?_
    cases h
    exact sp_fr.refl _ _ _
  · have h := (if_neg hc9).symm.trans h
    cases h
    exact sp_fr.refl _ _ _
set_option maxRecDepth 100000 in
theorem frX2_closes_j48 {F : Nat} {p : (Int32 × sp_Mem)} (a1 : Int32) (s0 : Int32) (M : sp_Mem) (h : fX2_closes_j48 F a1 s0 M = some p) : sp_fr [99] ([(96, 4), (97, 3), (96, 5), (96, 8), (94, 3), (94, 2), (94, 4)] : List (Nat × Nat)) M p.2 := by
  unfold fX2_closes_j48 at h
  obtain ⟨M6, hM6, h⟩ := Option.bind_eq_some_iff.mp h
  refine sp_fr.tr (sp_fr.mono (by first | decide | simp) (by first | decide | simp) (frX2_fold hM6)) ?_
  obtain ⟨v7, hv7, h⟩ := Option.bind_eq_some_iff.mp h
  exact frX2_closes_j66 _ _ _ _ h
set_option maxRecDepth 100000 in
theorem frX2_closes_j38 {F : Nat} {p : (Int32 × sp_Mem)} (a1 : Int32) (M : sp_Mem) (h : fX2_closes_j38 F a1 M = some p) : sp_fr [99] ([(96, 4), (97, 3), (96, 5), (96, 8), (94, 3), (94, 2), (94, 4)] : List (Nat × Nat)) M p.2 := by
  unfold fX2_closes_j38 at h
  exact frX2_closes_j48 _ _ _ h
set_option maxRecDepth 100000 in
theorem frX2_closes {F : Nat} {p : (Int32 × sp_Mem)} {M : sp_Mem} (h : fX2_closes F M = some p) : sp_fr [99] ([(96, 4), (97, 3), (96, 5), (96, 8), (94, 3), (94, 2), (94, 4)] : List (Nat × Nat)) M p.2 := by
  unfold fX2_closes at h
  obtain ⟨v1, hv1, h⟩ := Option.bind_eq_some_iff.mp h
  by_cases hc2 : v1 = 0
  · have h := (if_pos hc2).symm.trans h
    obtain ⟨v3, hv3, h⟩ := Option.bind_eq_some_iff.mp h
    by_cases hc4 : v3 = 0
    · have h := (if_pos hc4).symm.trans h
      cases h
      exact sp_fr.refl _ _ _
    · have h := (if_neg hc4).symm.trans h
      exact frX2_closes_j38 _ _ h
  · have h := (if_neg hc2).symm.trans h
    obtain ⟨x15, hx15, h⟩ := Option.bind_eq_some_iff.mp h
    refine sp_fr.tr (sp_fr.mono (by first | decide | simp) (by first | decide | simp) (frX2_isTest hx15)) ?_
    by_cases hc16 : x15.1 = 0
    · have h := (if_pos hc16).symm.trans h
      cases h
      exact sp_fr.refl _ _ _
    · have h := (if_neg hc16).symm.trans h
      exact frX2_closes_j38 _ _ h
set_option maxRecDepth 100000 in
theorem frX2_isWhole {F : Nat} {p : (Int32 × sp_Mem)} {M : sp_Mem} (h : fX2_isWhole F M = some p) : sp_fr [99] ([(96, 4), (97, 3)] : List (Nat × Nat)) M p.2 := by
  unfold fX2_isWhole at h
  obtain ⟨M1, hM1, h⟩ := Option.bind_eq_some_iff.mp h
  refine sp_fr.tr (sp_fr.mono (by first | decide | simp) (by first | decide | simp) (frX2_fold hM1)) ?_
  obtain ⟨v2, hv2, h⟩ := Option.bind_eq_some_iff.mp h
  by_cases hc3 : v2 = 20
  · have h := (if_pos hc3).symm.trans h
    obtain ⟨M4, hM4, h⟩ := Option.bind_eq_some_iff.mp h
    refine sp_fr.tr (sp_fr.mono (by first | decide | simp) (by first | decide | simp) (frX9_addStep hM4)) ?_
    cases h
    exact sp_fr.refl _ _ _
  · have h := (if_neg hc3).symm.trans h
    obtain ⟨x5, hx5, h⟩ := Option.bind_eq_some_iff.mp h
    refine sp_fr.tr (sp_fr.mono (by first | decide | simp) (by first | decide | simp) (frX2_isTest hx5)) ?_
    by_cases hc6 : x5.1 = 0
    · have h := (if_pos hc6).symm.trans h
      cases h
      exact sp_fr.refl _ _ _
    · have h := (if_neg hc6).symm.trans h
      obtain ⟨M7, hM7, h⟩ := Option.bind_eq_some_iff.mp h
      refine sp_fr.tr (sp_fr.mono (by first | decide | simp) (by first | decide | simp) (frX2_fold hM7)) ?_
      obtain ⟨v8, hv8, h⟩ := Option.bind_eq_some_iff.mp h
      by_cases hc9 : v8 = 21
      · have h := (if_pos hc9).symm.trans h
        obtain ⟨M10, hM10, h⟩ := Option.bind_eq_some_iff.mp h
        refine sp_fr.tr (sp_fr.mono (by first | decide | simp) (by first | decide | simp) (frX9_addStep hM10)) ?_
        cases h
        exact sp_fr.refl _ _ _
      · have h := (if_neg hc9).symm.trans h
        cases h
        exact sp_fr.refl _ _ _
set_option maxRecDepth 100000 in
theorem frX2_readValue_l44 {F : Nat} {kx : sp_Mem → Option (Int32 × sp_Mem)} {p : (Int32 × sp_Mem)} (hx : ∀  (M : sp_Mem), kx M = some p → sp_fr [98, 100, 99, 101] ([(96, 4), (96, 5), (97, 3), (94, 3), (94, 2), (94, 4), (96, 8), (96, 6)] : List (Nat × Nat)) M p.2) : ∀ (n : Nat) (a2 : Int32) (a3 : Int32) (M : sp_Mem), fX2_readValue_l44 F kx n a2 a3 M = some p → sp_fr [98, 100, 99, 101] ([(96, 4), (96, 5), (97, 3), (94, 3), (94, 2), (94, 4), (96, 8), (96, 6)] : List (Nat × Nat)) M p.2 := by
  intro n
  induction n with
  | zero =>
    intro a2 a3 M h
    rw [fX2_readValue_l44] at h
    cases h
  | succ n ih =>
    intro a2 a3 M h
    rw [fX2_readValue_l44] at h
    by_cases hc6 : 400 < a3
    · have h := (if_pos hc6).symm.trans h
      exact hx _ h
    · have h := (if_neg hc6).symm.trans h
      by_cases hc7 : a2 = 0
      · have h := (if_pos hc7).symm.trans h
        obtain ⟨x8, hx8, h⟩ := Option.bind_eq_some_iff.mp h
        refine sp_fr.tr (sp_fr.mono (by first | decide | simp) (by first | decide | simp) (frX2_joins hx8)) ?_
        by_cases hc9 : x8.1 = 0
        · have h := (if_pos hc9).symm.trans h
          obtain ⟨x10, hx10, h⟩ := Option.bind_eq_some_iff.mp h
          refine sp_fr.tr (sp_fr.mono (by first | decide | simp) (by first | decide | simp) (frX2_closes hx10)) ?_
          by_cases hc11 : x10.1 = 0
          · have h := (if_pos hc11).symm.trans h
            obtain ⟨x12, hx12, h⟩ := Option.bind_eq_some_iff.mp h
            refine sp_fr.tr (sp_fr.mono (by first | decide | simp) (by first | decide | simp) (frX2_isWhole hx12)) ?_
            obtain ⟨_, hz13, h⟩ := Option.bind_eq_some_iff.mp h
            cases h
            exact sp_fr.refl _ _ _
          · have h := (if_neg hc11).symm.trans h
            exact ih _ _ _ h
        · have h := (if_neg hc9).symm.trans h
          exact ih _ _ _ h
      · have h := (if_neg hc7).symm.trans h
        obtain ⟨x14, hx14, h⟩ := Option.bind_eq_some_iff.mp h
        refine sp_fr.tr (sp_fr.mono (by first | decide | simp) (by first | decide | simp) (frX2_opens hx14)) ?_
        by_cases hc15 : x14.1 = 0
        · have h := (if_pos hc15).symm.trans h
          obtain ⟨x16, hx16, h⟩ := Option.bind_eq_some_iff.mp h
          refine sp_fr.tr (sp_fr.mono (by first | decide | simp) (by first | decide | simp) (frX2_readPart hx16)) ?_
          by_cases hc17 : x16.1 = 0
          · have h := (if_pos hc17).symm.trans h
            cases h
            exact sp_fr.refl _ _ _
          · have h := (if_neg hc17).symm.trans h
            exact ih _ _ _ h
        · have h := (if_neg hc15).symm.trans h
          exact ih _ _ _ h
set_option maxRecDepth 100000 in
theorem frX2_readValue_j38 {F : Nat} {p : (Int32 × sp_Mem)} (s0 : Int32) (M : sp_Mem) (h : fX2_readValue_j38 F s0 M = some p) : sp_fr [98, 100, 99, 101] ([(96, 4), (96, 5), (97, 3), (94, 3), (94, 2), (94, 4), (96, 8), (96, 6)] : List (Nat × Nat)) M p.2 := by
  unfold fX2_readValue_j38 at h
  obtain ⟨x5, hx5, h⟩ := Option.bind_eq_some_iff.mp h
  refine sp_fr.tr (sp_fr.mono (by first | decide | simp) (by first | decide | simp) (frX2_push hx5)) ?_
  refine frX2_readValue_l44 (fun M18 h => ?_) F _ _ _ h
  cases h
  exact sp_fr.refl _ _ _
set_option maxRecDepth 100000 in
theorem frX2_readValue {F : Nat} {p : (Int32 × sp_Mem)} {M : sp_Mem} {a1 : Int32} (h : fX2_readValue F M a1 = some p) : sp_fr [98, 100, 99, 101] ([(96, 4), (96, 5), (97, 3), (94, 3), (94, 2), (94, 4), (96, 8), (96, 6)] : List (Nat × Nat)) M p.2 := by
  unfold fX2_readValue at h
  obtain ⟨M1, hM1, h⟩ := Option.bind_eq_some_iff.mp h
  refine sp_fr.tr (sp_fr.mono (by first | decide | simp) (by first | decide | simp) (frX9_setSlot hM1)) ?_
  obtain ⟨M2, hM2, h⟩ := sp_do_e h
  refine sp_fr.tr (sp_fr_I (Or.inr (by first | decide | simp)) hM2) ?_
  obtain ⟨M3, hM3, h⟩ := sp_do_e h
  refine sp_fr.tr (sp_fr_I (Or.inr (by first | decide | simp)) hM3) ?_
  exact frX2_readValue_j38 _ _ h
set_option maxRecDepth 100000 in
theorem frX2_takes_j17 {F : Nat} {o1 : Nat} {p : (Int32 × sp_Mem)} (s0 : Int32) (M : sp_Mem) (h : fX2_takes_j17 F o1 s0 M = some p) : sp_fr [] ([(94, 3), (94, 2), (94, 4)] : List (Nat × Nat)) M p.2 := by
  unfold fX2_takes_j17 at h
  by_cases hc3 : s0 = 0
  · have h := (if_pos hc3).symm.trans h
    obtain ⟨_, hz4, h⟩ := Option.bind_eq_some_iff.mp h
    cases h
    exact sp_fr.refl _ _ _
  · have h := (if_neg hc3).symm.trans h
    obtain ⟨M5, hM5, h⟩ := Option.bind_eq_some_iff.mp h
    refine sp_fr.tr (sp_fr.mono (by first | decide | simp) (by first | decide | simp) (frX8_toNext hM5)) ?_
    obtain ⟨_, hz6, h⟩ := Option.bind_eq_some_iff.mp h
    cases h
    exact sp_fr.refl _ _ _
set_option maxRecDepth 100000 in
theorem frX2_takes {F : Nat} {o1 : Nat} {p : (Int32 × sp_Mem)} {M : sp_Mem} (h : fX2_takes F M o1 = some p) : sp_fr [] ([(94, 3), (94, 2), (94, 4)] : List (Nat × Nat)) M p.2 := by
  unfold fX2_takes at h
  obtain ⟨v1, hv1, h⟩ := Option.bind_eq_some_iff.mp h
  exact frX2_takes_j17 _ _ h
set_option maxRecDepth 100000 in
theorem frX2_readTimes {F : Nat} {p : (Int32 × sp_Mem)} {M : sp_Mem} (h : fX2_readTimes F M = some p) : sp_fr [98] ([(94, 3), (94, 2), (94, 4)] : List (Nat × Nat)) M p.2 := by
  unfold fX2_readTimes at h
  obtain ⟨v1, hv1, h⟩ := Option.bind_eq_some_iff.mp h
  by_cases hc2 : (fX10_isWithin v1 1 20) = 0
  · have h := (if_pos hc2).symm.trans h
    cases h
    exact sp_fr.refl _ _ _
  · have h := (if_neg hc2).symm.trans h
    obtain ⟨M3, hM3, h⟩ := Option.bind_eq_some_iff.mp h
    refine sp_fr.tr (sp_fr.mono (by first | decide | simp) (by first | decide | simp) (frX9_setSlot hM3)) ?_
    obtain ⟨M4, hM4, h⟩ := Option.bind_eq_some_iff.mp h
    refine sp_fr.tr (sp_fr.mono (by first | decide | simp) (by first | decide | simp) (frX8_toNext hM4)) ?_
    cases h
    exact sp_fr.refl _ _ _
set_option maxRecDepth 100000 in
theorem frX2_readOrder_j110 {F : Nat} {p : (Int32 × sp_Mem)} (M : sp_Mem) (h : fX2_readOrder_j110 F M = some p) : sp_fr [98, 100, 99, 101] ([(97, 2), (94, 3), (94, 2), (94, 4), (96, 4), (96, 5), (97, 3), (96, 8), (96, 6)] : List (Nat × Nat)) M p.2 := by
  unfold fX2_readOrder_j110 at h
  obtain ⟨x11, hx11, h⟩ := Option.bind_eq_some_iff.mp h
  refine sp_fr.tr (sp_fr.mono (by first | decide | simp) (by first | decide | simp) (frX2_takes hx11)) ?_
  by_cases hc12 : x11.1 = 0
  · have h := (if_pos hc12).symm.trans h
    cases h
    exact sp_fr.refl _ _ _
  · have h := (if_neg hc12).symm.trans h
    obtain ⟨x13, hx13, h⟩ := Option.bind_eq_some_iff.mp h
    refine sp_fr.tr (sp_fr.mono (by first | decide | simp) (by first | decide | simp) (frX2_readValue hx13)) ?_
    cases h
    exact sp_fr.refl _ _ _
set_option maxRecDepth 100000 in
theorem frX2_readOrder_j94 {F : Nat} {p : (Int32 × sp_Mem)} (M : sp_Mem) (h : fX2_readOrder_j94 F M = some p) : sp_fr [98, 100, 99, 101] ([(97, 2), (94, 3), (94, 2), (94, 4), (96, 4), (96, 5), (97, 3), (96, 8), (96, 6)] : List (Nat × Nat)) M p.2 := by
  unfold fX2_readOrder_j94 at h
  obtain ⟨x9, hx9, h⟩ := Option.bind_eq_some_iff.mp h
  refine sp_fr.tr (sp_fr.mono (by first | decide | simp) (by first | decide | simp) (frX2_takes hx9)) ?_
  by_cases hc10 : x9.1 = 0
  · have h := (if_pos hc10).symm.trans h
    exact frX2_readOrder_j110 _ h
  · have h := (if_neg hc10).symm.trans h
    obtain ⟨x15, hx15, h⟩ := Option.bind_eq_some_iff.mp h
    refine sp_fr.tr (sp_fr.mono (by first | decide | simp) (by first | decide | simp) (frX2_readTimes hx15)) ?_
    by_cases hc16 : x15.1 = 0
    · have h := (if_pos hc16).symm.trans h
      cases h
      exact sp_fr.refl _ _ _
    · have h := (if_neg hc16).symm.trans h
      exact frX2_readOrder_j110 _ h
set_option maxRecDepth 100000 in
theorem frX2_readOrder_j78 {F : Nat} {p : (Int32 × sp_Mem)} (M : sp_Mem) (h : fX2_readOrder_j78 F M = some p) : sp_fr [98, 100, 99, 101] ([(97, 2), (94, 3), (94, 2), (94, 4), (96, 4), (96, 5), (97, 3), (96, 8), (96, 6)] : List (Nat × Nat)) M p.2 := by
  unfold fX2_readOrder_j78 at h
  obtain ⟨x18, hx18, h⟩ := Option.bind_eq_some_iff.mp h
  refine sp_fr.tr (sp_fr.mono (by first | decide | simp) (by first | decide | simp) (frX2_takes hx18)) ?_
  by_cases hc19 : x18.1 = 0
  · have h := (if_pos hc19).symm.trans h
    cases h
    exact sp_fr.refl _ _ _
  · have h := (if_neg hc19).symm.trans h
    obtain ⟨x20, hx20, h⟩ := Option.bind_eq_some_iff.mp h
    refine sp_fr.tr (sp_fr.mono (by first | decide | simp) (by first | decide | simp) (frX2_readValue hx20)) ?_
    by_cases hc21 : x20.1 = 0
    · have h := (if_pos hc21).symm.trans h
      cases h
      exact sp_fr.refl _ _ _
    · have h := (if_neg hc21).symm.trans h
      exact frX2_readOrder_j94 _ h
set_option maxRecDepth 100000 in
theorem frX2_readOrder_j78_5 {F : Nat} {p : (Int32 × sp_Mem)} (M : sp_Mem) (h : fX2_readOrder_j78_5 F M = some p) : sp_fr [98, 100, 99, 101] ([(97, 2), (94, 3), (94, 2), (94, 4), (96, 4), (96, 5), (97, 3), (96, 8), (96, 6)] : List (Nat × Nat)) M p.2 := by
  unfold fX2_readOrder_j78_5 at h
  obtain ⟨x22, hx22, h⟩ := Option.bind_eq_some_iff.mp h
  refine sp_fr.tr (sp_fr.mono (by first | decide | simp) (by first | decide | simp) (frX2_takes hx22)) ?_
  by_cases hc23 : x22.1 = 0
  · have h := (if_pos hc23).symm.trans h
    cases h
    exact sp_fr.refl _ _ _
  · have h := (if_neg hc23).symm.trans h
    obtain ⟨x24, hx24, h⟩ := Option.bind_eq_some_iff.mp h
    refine sp_fr.tr (sp_fr.mono (by first | decide | simp) (by first | decide | simp) (frX2_readValue hx24)) ?_
    by_cases hc25 : x24.1 = 0
    · have h := (if_pos hc25).symm.trans h
      cases h
      exact sp_fr.refl _ _ _
    · have h := (if_neg hc25).symm.trans h
      exact frX2_readOrder_j94 _ h
set_option maxRecDepth 100000 in
theorem frX2_readOrder_j61 {F : Nat} {p : (Int32 × sp_Mem)} (a1 : Int32) (s0 : Int32) (M : sp_Mem) (h : fX2_readOrder_j61 F a1 s0 M = some p) : sp_fr [98, 100, 99, 101] ([(97, 2), (94, 3), (94, 2), (94, 4), (96, 4), (96, 5), (97, 3), (96, 8), (96, 6)] : List (Nat × Nat)) M p.2 := by
  unfold fX2_readOrder_j61 at h
  by_cases hc8 : s0 = 0
  · have h := (if_pos hc8).symm.trans h
    exact frX2_readOrder_j94 _ h
  · have h := (if_neg hc8).symm.trans h
    by_cases hc17 : a1 = 0
    · have h := (if_pos hc17).symm.trans h
      exact frX2_readOrder_j78_5 _ h
    · have h := (if_neg hc17).symm.trans h
      exact frX2_readOrder_j78 _ h
set_option maxRecDepth 100000 in
theorem frX2_readOrder_j47 {F : Nat} {p : (Int32 × sp_Mem)} (a1 : Int32) (M : sp_Mem) (h : fX2_readOrder_j47 F a1 M = some p) : sp_fr [98, 100, 99, 101] ([(97, 2), (94, 3), (94, 2), (94, 4), (96, 4), (96, 5), (97, 3), (96, 8), (96, 6)] : List (Nat × Nat)) M p.2 := by
  unfold fX2_readOrder_j47 at h
  exact frX2_readOrder_j61 _ _ _ h
set_option maxRecDepth 100000 in
theorem frX2_readOrder {F : Nat} {p : (Int32 × sp_Mem)} {M : sp_Mem} (h : fX2_readOrder F M = some p) : sp_fr [98, 100, 99, 101] ([(97, 2), (94, 3), (94, 2), (94, 4), (96, 4), (96, 5), (97, 3), (96, 8), (96, 6)] : List (Nat × Nat)) M p.2 := by
  unfold fX2_readOrder at h
  obtain ⟨v1, hv1, h⟩ := Option.bind_eq_some_iff.mp h
  by_cases hc2 : v1 = (-1)
  · have h := (if_pos hc2).symm.trans h
    cases h
    exact sp_fr.refl _ _ _
  · have h := (if_neg hc2).symm.trans h
    obtain ⟨M3, hM3, h⟩ := Option.bind_eq_some_iff.mp h
    refine sp_fr.tr (sp_fr.mono (by first | decide | simp) (by first | decide | simp) (frX9_addClause hM3)) ?_
    obtain ⟨M4, hM4, h⟩ := Option.bind_eq_some_iff.mp h
    refine sp_fr.tr (sp_fr.mono (by first | decide | simp) (by first | decide | simp) (frX8_toNext hM4)) ?_
    by_cases hc5 : v1 = 3
    · have h := (if_pos hc5).symm.trans h
      exact frX2_readOrder_j47 _ _ h
    · have h := (if_neg hc5).symm.trans h
      obtain ⟨x26, hx26, h⟩ := Option.bind_eq_some_iff.mp h
      refine sp_fr.tr (sp_fr.mono (by first | decide | simp) (by first | decide | simp) (frX2_readValue hx26)) ?_
      by_cases hc27 : x26.1 = 0
      · have h := (if_pos hc27).symm.trans h
        cases h
        exact sp_fr.refl _ _ _
      · have h := (if_neg hc27).symm.trans h
        exact frX2_readOrder_j47 _ _ h
set_option maxRecDepth 100000 in
theorem frX2_readLaw_j59 {F : Nat} {p : (Int32 × sp_Mem)} (M : sp_Mem) (h : fX2_readLaw_j59 F M = some p) : sp_fr [98, 100, 99, 101] ([(97, 2), (94, 3), (94, 2), (94, 4), (96, 4), (96, 5), (97, 3), (96, 8), (96, 6)] : List (Nat × Nat)) M p.2 := by
  unfold fX2_readLaw_j59 at h
  obtain ⟨x8, hx8, h⟩ := Option.bind_eq_some_iff.mp h
  refine sp_fr.tr (sp_fr.mono (by first | decide | simp) (by first | decide | simp) (frX2_takes hx8)) ?_
  by_cases hc9 : x8.1 = 0
  · have h := (if_pos hc9).symm.trans h
    cases h
    exact sp_fr.refl _ _ _
  · have h := (if_neg hc9).symm.trans h
    obtain ⟨x10, hx10, h⟩ := Option.bind_eq_some_iff.mp h
    refine sp_fr.tr (sp_fr.mono (by first | decide | simp) (by first | decide | simp) (frX2_readValue hx10)) ?_
    cases h
    exact sp_fr.refl _ _ _
set_option maxRecDepth 100000 in
theorem frX2_readLaw_j46 {F : Nat} {p : (Int32 × sp_Mem)} (s0 : Int32) (M : sp_Mem) (h : fX2_readLaw_j46 F s0 M = some p) : sp_fr [98, 100, 99, 101] ([(97, 2), (94, 3), (94, 2), (94, 4), (96, 4), (96, 5), (97, 3), (96, 8), (96, 6)] : List (Nat × Nat)) M p.2 := by
  unfold fX2_readLaw_j46 at h
  by_cases hc7 : s0 = 0
  · have h := (if_pos hc7).symm.trans h
    exact frX2_readLaw_j59 _ h
  · have h := (if_neg hc7).symm.trans h
    obtain ⟨x12, hx12, h⟩ := Option.bind_eq_some_iff.mp h
    refine sp_fr.tr (sp_fr.mono (by first | decide | simp) (by first | decide | simp) (frX2_readValue hx12)) ?_
    by_cases hc13 : x12.1 = 0
    · have h := (if_pos hc13).symm.trans h
      cases h
      exact sp_fr.refl _ _ _
    · have h := (if_neg hc13).symm.trans h
      exact frX2_readLaw_j59 _ h
set_option maxRecDepth 100000 in
theorem frX2_readLaw {F : Nat} {p : (Int32 × sp_Mem)} {M : sp_Mem} (h : fX2_readLaw F M = some p) : sp_fr [98, 100, 99, 101] ([(97, 2), (94, 3), (94, 2), (94, 4), (96, 4), (96, 5), (97, 3), (96, 8), (96, 6)] : List (Nat × Nat)) M p.2 := by
  unfold fX2_readLaw at h
  obtain ⟨v1, hv1, h⟩ := Option.bind_eq_some_iff.mp h
  by_cases hc2 : v1 = (-1)
  · have h := (if_pos hc2).symm.trans h
    cases h
    exact sp_fr.refl _ _ _
  · have h := (if_neg hc2).symm.trans h
    obtain ⟨M3, hM3, h⟩ := Option.bind_eq_some_iff.mp h
    refine sp_fr.tr (sp_fr.mono (by first | decide | simp) (by first | decide | simp) (frX9_addClause hM3)) ?_
    obtain ⟨M4, hM4, h⟩ := Option.bind_eq_some_iff.mp h
    refine sp_fr.tr (sp_fr.mono (by first | decide | simp) (by first | decide | simp) (frX8_toNext hM4)) ?_
    exact frX2_readLaw_j46 _ _ h
set_option maxRecDepth 100000 in
theorem frX2_read_j64 {F : Nat} {kb : Int32 → Int32 → sp_Mem → Option (Int32 × sp_Mem)} {kx : sp_Mem → Option (Int32 × sp_Mem)} {p : (Int32 × sp_Mem)} (hb : ∀ (a1 : Int32) (a2 : Int32) (M : sp_Mem), kb a1 a2 M = some p → sp_fr [98, 100, 99, 101] ([(96, 7), (96, 6), (97, 2), (97, 3), (94, 4), (94, 3), (94, 2), (96, 4), (96, 5), (96, 8)] : List (Nat × Nat)) M p.2) (hx : ∀  (M : sp_Mem), kx M = some p → sp_fr [98, 100, 99, 101] ([(96, 7), (96, 6), (97, 2), (97, 3), (94, 4), (94, 3), (94, 2), (96, 4), (96, 5), (96, 8)] : List (Nat × Nat)) M p.2) (a1 : Int32) (a2 : Int32) (a3 : Int32) (M : sp_Mem) (h : fX2_read_j64 F kb kx a1 a2 a3 M = some p) : sp_fr [98, 100, 99, 101] ([(96, 7), (96, 6), (97, 2), (97, 3), (94, 4), (94, 3), (94, 2), (96, 4), (96, 5), (96, 8)] : List (Nat × Nat)) M p.2 := by
  unfold fX2_read_j64 at h
  by_cases hc10 : a3 = 0
  · have h := (if_pos hc10).symm.trans h
    cases h
    exact sp_fr.refl _ _ _
  · have h := (if_neg hc10).symm.trans h
    obtain ⟨v11, hv11, h⟩ := Option.bind_eq_some_iff.mp h
    by_cases hc12 : v11 = 0
    · have h := (if_pos hc12).symm.trans h
      cases h
      exact sp_fr.refl _ _ _
    · have h := (if_neg hc12).symm.trans h
      obtain ⟨M13, hM13, h⟩ := Option.bind_eq_some_iff.mp h
      refine sp_fr.tr (sp_fr.mono (by first | decide | simp) (by first | decide | simp) (frX8_toNext hM13)) ?_
      exact hb _ _ _ h
set_option maxRecDepth 100000 in
theorem frX2_read_j47 {F : Nat} {kb : Int32 → Int32 → sp_Mem → Option (Int32 × sp_Mem)} {kx : sp_Mem → Option (Int32 × sp_Mem)} {p : (Int32 × sp_Mem)} (hb : ∀ (a1 : Int32) (a2 : Int32) (M : sp_Mem), kb a1 a2 M = some p → sp_fr [98, 100, 99, 101] ([(96, 7), (96, 6), (97, 2), (97, 3), (94, 4), (94, 3), (94, 2), (96, 4), (96, 5), (96, 8)] : List (Nat × Nat)) M p.2) (hx : ∀  (M : sp_Mem), kx M = some p → sp_fr [98, 100, 99, 101] ([(96, 7), (96, 6), (97, 2), (97, 3), (94, 4), (94, 3), (94, 2), (96, 4), (96, 5), (96, 8)] : List (Nat × Nat)) M p.2) (a1 : Int32) (a2 : Int32) (s0 : Int32) (M : sp_Mem) (h : fX2_read_j47 F kb kx a1 a2 s0 M = some p) : sp_fr [98, 100, 99, 101] ([(96, 7), (96, 6), (97, 2), (97, 3), (94, 4), (94, 3), (94, 2), (96, 4), (96, 5), (96, 8)] : List (Nat × Nat)) M p.2 := by
  unfold fX2_read_j47 at h
  by_cases hc9 : s0 = 0
  · have h := (if_pos hc9).symm.trans h
    exact frX2_read_j64 hb hx _ _ _ _ h
  · have h := (if_neg hc9).symm.trans h
    by_cases hc14 : (sp_I M 94 2) = 0
    · have h := (if_pos hc14).symm.trans h
      cases h
      exact sp_fr.refl _ _ _
    · have h := (if_neg hc14).symm.trans h
      exact frX2_read_j64 hb hx _ _ _ _ h
set_option maxRecDepth 100000 in
theorem frX2_read_l26 {F : Nat} {kx : sp_Mem → Option (Int32 × sp_Mem)} {p : (Int32 × sp_Mem)} (hx : ∀  (M : sp_Mem), kx M = some p → sp_fr [98, 100, 99, 101] ([(96, 7), (96, 6), (97, 2), (97, 3), (94, 4), (94, 3), (94, 2), (96, 4), (96, 5), (96, 8)] : List (Nat × Nat)) M p.2) : ∀ (n : Nat) (a1 : Int32) (a2 : Int32) (M : sp_Mem), fX2_read_l26 F kx n a1 a2 M = some p → sp_fr [98, 100, 99, 101] ([(96, 7), (96, 6), (97, 2), (97, 3), (94, 4), (94, 3), (94, 2), (96, 4), (96, 5), (96, 8)] : List (Nat × Nat)) M p.2 := by
  intro n
  induction n with
  | zero =>
    intro a1 a2 M h
    rw [fX2_read_l26] at h
    cases h
  | succ n ih =>
    intro a1 a2 M h
    rw [fX2_read_l26] at h
    by_cases hc6 : 12 ≤ a2
    · have h := (if_pos hc6).symm.trans h
      exact hx _ h
    · have h := (if_neg hc6).symm.trans h
      by_cases hc7 : a1 = 0
      · have h := (if_pos hc7).symm.trans h
        obtain ⟨x8, hx8, h⟩ := Option.bind_eq_some_iff.mp h
        refine sp_fr.tr (sp_fr.mono (by first | decide | simp) (by first | decide | simp) (frX2_readLaw hx8)) ?_
        exact frX2_read_j47 ih hx _ _ _ _ h
      · have h := (if_neg hc7).symm.trans h
        obtain ⟨x15, hx15, h⟩ := Option.bind_eq_some_iff.mp h
        refine sp_fr.tr (sp_fr.mono (by first | decide | simp) (by first | decide | simp) (frX2_readOrder hx15)) ?_
        exact frX2_read_j47 ih hx _ _ _ _ h
set_option maxRecDepth 100000 in
theorem frX2_read {F : Nat} {p : (Int32 × sp_Mem)} {M : sp_Mem} {a1 : Int32} (h : fX2_read F M a1 = some p) : sp_fr [98, 100, 99, 101] ([(96, 7), (96, 6), (97, 2), (97, 3), (94, 4), (94, 3), (94, 2), (96, 4), (96, 5), (96, 8)] : List (Nat × Nat)) M p.2 := by
  unfold fX2_read at h
  obtain ⟨M1, hM1, h⟩ := sp_do_e h
  refine sp_fr.tr (sp_fr_I (Or.inr (by first | decide | simp)) hM1) ?_
  obtain ⟨_, hz2, h⟩ := Option.bind_eq_some_iff.mp h
  obtain ⟨M3, hM3, h⟩ := sp_do_e h
  refine sp_fr.tr (sp_fr_I (Or.inr (by first | decide | simp)) hM3) ?_
  obtain ⟨M4, hM4, h⟩ := Option.bind_eq_some_iff.mp h
  refine sp_fr.tr (sp_fr.mono (by first | decide | simp) (by first | decide | simp) (frX9_clear hM4)) ?_
  obtain ⟨M5, hM5, h⟩ := Option.bind_eq_some_iff.mp h
  refine sp_fr.tr (sp_fr.mono (by first | decide | simp) (by first | decide | simp) (frX8_toFirst hM5)) ?_
  refine frX2_read_l26 (fun M16 h => ?_) F _ _ _ h
  cases h
  exact sp_fr.refl _ _ _
set_option maxRecDepth 100000 in
theorem frX3_clear {o0 : Nat} {p : sp_Mem} {M : sp_Mem} (h : fX3_clear M o0 = some p) : sp_fr [] ([(o0, 3)] : List (Nat × Nat)) M p := by
  unfold fX3_clear at h
  obtain ⟨M1, hM1, h⟩ := sp_do_e h
  refine sp_fr.tr (sp_fr_I (Or.inr (by first | decide | simp)) hM1) ?_
  cases h
  exact sp_fr.refl _ _ _
set_option maxRecDepth 100000 in
theorem frX5_saveMoves {o0 : Nat} {o1 : Nat} {p : sp_Mem} {M : sp_Mem} {a2 : Int32} (h : fX5_saveMoves M o0 o1 a2 = some p) : sp_fr [o1] ([] : List (Nat × Nat)) M p := by
  unfold fX5_saveMoves at h
  obtain ⟨k1, hk1, h⟩ := Option.bind_eq_some_iff.mp h
  obtain ⟨M2, hM2, h⟩ := sp_do_e h
  refine sp_fr.tr (sp_fr_C (by first | decide | simp) hM2) ?_
  obtain ⟨k3, hk3, h⟩ := Option.bind_eq_some_iff.mp h
  obtain ⟨M4, hM4, h⟩ := sp_do_e h
  refine sp_fr.tr (sp_fr_C (by first | decide | simp) hM4) ?_
  obtain ⟨k5, hk5, h⟩ := Option.bind_eq_some_iff.mp h
  obtain ⟨M6, hM6, h⟩ := sp_do_e h
  refine sp_fr.tr (sp_fr_C (by first | decide | simp) hM6) ?_
  obtain ⟨k7, hk7, h⟩ := Option.bind_eq_some_iff.mp h
  obtain ⟨M8, hM8, h⟩ := sp_do_e h
  refine sp_fr.tr (sp_fr_C (by first | decide | simp) hM8) ?_
  obtain ⟨j9, hj9, h⟩ := Option.bind_eq_some_iff.mp h
  obtain ⟨M10, hM10, h⟩ := sp_do_e h
  refine sp_fr.tr (sp_fr_I (Or.inl (by first | decide | simp)) hM10) ?_
  cases h
  exact sp_fr.refl _ _ _
set_option maxRecDepth 100000 in
theorem frX3_prepare {o0 : Nat} {o1 : Nat} {p : sp_Mem} {M : sp_Mem} (h : fX3_prepare M o0 o1 = some p) : sp_fr [(o0 + 1)] ([] : List (Nat × Nat)) M p := by
  unfold fX3_prepare at h
  obtain ⟨v1, hv1, h⟩ := Option.bind_eq_some_iff.mp h
  obtain ⟨M2, hM2, h⟩ := Option.bind_eq_some_iff.mp h
  refine sp_fr.tr (sp_fr.mono (by first | decide | simp) (by first | decide | simp) (frX5_saveMoves hM2)) ?_
  cases h
  exact sp_fr.refl _ _ _
set_option maxRecDepth 100000 in
theorem frX3_keep {o0 : Nat} {p : sp_Mem} {M : sp_Mem} {a1 : Int32} (h : fX3_keep M o0 a1 = some p) : sp_fr [(o0 + 2)] ([(o0, 2), (o0, 3)] : List (Nat × Nat)) M p := by
  unfold fX3_keep at h
  obtain ⟨v1, hv1, h⟩ := Option.bind_eq_some_iff.mp h
  obtain ⟨j2, hj2, h⟩ := Option.bind_eq_some_iff.mp h
  obtain ⟨M3, hM3, h⟩ := sp_do_e h
  refine sp_fr.tr (sp_fr_I (Or.inl (by first | decide | simp)) hM3) ?_
  by_cases hc4 : 16 ≤ (sp_I M3 o0 3)
  · have h := (if_pos hc4).symm.trans h
    obtain ⟨M5, hM5, h⟩ := sp_do_e h
    refine sp_fr.tr (sp_fr_I (Or.inr (by first | decide | simp)) hM5) ?_
    cases h
    exact sp_fr.refl _ _ _
  · have h := (if_neg hc4).symm.trans h
    obtain ⟨M6, hM6, h⟩ := sp_do_e h
    refine sp_fr.tr (sp_fr_I (Or.inr (by first | decide | simp)) hM6) ?_
    cases h
    exact sp_fr.refl _ _ _
set_option maxRecDepth 100000 in
theorem frX5_loadMoves {o0 : Nat} {o1 : Nat} {p : sp_Mem} {M : sp_Mem} {a2 : Int32} (h : fX5_loadMoves M o0 o1 a2 = some p) : sp_fr [(o0 + 1), (o0 + 2), (o0 + 3), (o0 + 5), (o0 + 10)] ([] : List (Nat × Nat)) M p := by
  unfold fX5_loadMoves at h
  obtain ⟨k1, hk1, h⟩ := Option.bind_eq_some_iff.mp h
  obtain ⟨M2, hM2, h⟩ := sp_do_e h
  refine sp_fr.tr (sp_fr_C (by first | decide | simp) hM2) ?_
  obtain ⟨k3, hk3, h⟩ := Option.bind_eq_some_iff.mp h
  obtain ⟨M4, hM4, h⟩ := sp_do_e h
  refine sp_fr.tr (sp_fr_C (by first | decide | simp) hM4) ?_
  obtain ⟨k5, hk5, h⟩ := Option.bind_eq_some_iff.mp h
  obtain ⟨M6, hM6, h⟩ := sp_do_e h
  refine sp_fr.tr (sp_fr_C (by first | decide | simp) hM6) ?_
  obtain ⟨k7, hk7, h⟩ := Option.bind_eq_some_iff.mp h
  obtain ⟨M8, hM8, h⟩ := sp_do_e h
  refine sp_fr.tr (sp_fr_C (by first | decide | simp) hM8) ?_
  obtain ⟨j9, hj9, h⟩ := Option.bind_eq_some_iff.mp h
  obtain ⟨M10, hM10, h⟩ := sp_do_e h
  refine sp_fr.tr (sp_fr_I (Or.inl (by first | decide | simp)) hM10) ?_
  cases h
  exact sp_fr.refl _ _ _
set_option maxRecDepth 100000 in
theorem frX3_takeBack {o0 : Nat} {o1 : Nat} {p : (Int32 × sp_Mem)} {M : sp_Mem} (h : fX3_takeBack M o0 o1 = some p) : sp_fr [(o1 + 1), (o1 + 2), (o1 + 3), (o1 + 5), (o1 + 10)] ([(o0, 3)] : List (Nat × Nat)) M p.2 := by
  unfold fX3_takeBack at h
  by_cases hc1 : (sp_I M o0 3) = 0
  · have h := (if_pos hc1).symm.trans h
    cases h
    exact sp_fr.refl _ _ _
  · have h := (if_neg hc1).symm.trans h
    obtain ⟨M2, hM2, h⟩ := sp_do_e h
    refine sp_fr.tr (sp_fr_I (Or.inr (by first | decide | simp)) hM2) ?_
    obtain ⟨v3, hv3, h⟩ := Option.bind_eq_some_iff.mp h
    obtain ⟨M4, hM4, h⟩ := Option.bind_eq_some_iff.mp h
    refine sp_fr.tr (sp_fr.mono (by first | decide | simp) (by first | decide | simp) (frX5_loadMoves hM4)) ?_
    obtain ⟨j5, hj5, h⟩ := Option.bind_eq_some_iff.mp h
    cases h
    exact sp_fr.refl _ _ _
set_option maxRecDepth 100000 in
theorem frX3_copyFrom {o0 : Nat} {o1 : Nat} {p : sp_Mem} {M : sp_Mem} (h : fX3_copyFrom M o0 o1 = some p) : sp_fr [(o0 + 1), (o0 + 2)] ([(o0, 2), (o0, 3)] : List (Nat × Nat)) M p := by
  unfold fX3_copyFrom at h
  obtain ⟨M1, hM1, h⟩ := sp_do_e h
  refine sp_fr.tr (sp_fr_C (by first | decide | simp) hM1) ?_
  obtain ⟨M2, hM2, h⟩ := sp_do_e h
  refine sp_fr.tr (sp_fr_C (by first | decide | simp) hM2) ?_
  obtain ⟨M3, hM3, h⟩ := sp_do_e h
  refine sp_fr.tr (sp_fr_I (Or.inr (by first | decide | simp)) hM3) ?_
  obtain ⟨M4, hM4, h⟩ := sp_do_e h
  refine sp_fr.tr (sp_fr_I (Or.inr (by first | decide | simp)) hM4) ?_
  cases h
  exact sp_fr.refl _ _ _
set_option maxRecDepth 100000 in
theorem frX5_addSpark {o0 : Nat} {p : (Int32 × sp_Mem)} {M : sp_Mem} {a1 : Int32} {a2 : Int32} {a3 : Int32} (h : fX5_addSpark M o0 a1 a2 a3 = some p) : sp_fr [(o0 + 2), (o0 + 3), (o0 + 4)] ([(o0, 4)] : List (Nat × Nat)) M p.2 := by
  unfold fX5_addSpark at h
  by_cases hc1 : (sp_I M o0 4) < 6
  · have h := (if_pos hc1).symm.trans h
    obtain ⟨j2, hj2, h⟩ := Option.bind_eq_some_iff.mp h
    obtain ⟨M3, hM3, h⟩ := sp_do_e h
    refine sp_fr.tr (sp_fr_I (Or.inl (by first | decide | simp)) hM3) ?_
    obtain ⟨j4, hj4, h⟩ := Option.bind_eq_some_iff.mp h
    obtain ⟨M5, hM5, h⟩ := sp_do_e h
    refine sp_fr.tr (sp_fr_I (Or.inl (by first | decide | simp)) hM5) ?_
    obtain ⟨j6, hj6, h⟩ := Option.bind_eq_some_iff.mp h
    obtain ⟨M7, hM7, h⟩ := sp_do_e h
    refine sp_fr.tr (sp_fr_I (Or.inl (by first | decide | simp)) hM7) ?_
    obtain ⟨M8, hM8, h⟩ := sp_do_e h
    refine sp_fr.tr (sp_fr_I (Or.inr (by first | decide | simp)) hM8) ?_
    cases h
    exact sp_fr.refl _ _ _
  · have h := (if_neg hc1).symm.trans h
    cases h
    exact sp_fr.refl _ _ _
set_option maxRecDepth 100000 in
theorem frX5_addPerson {o0 : Nat} {p : (Int32 × sp_Mem)} {M : sp_Mem} {a1 : Int32} {a2 : Int32} (h : fX5_addPerson M o0 a1 a2 = some p) : sp_fr [(o0 + 5), (o0 + 6), (o0 + 7)] ([(o0, 8)] : List (Nat × Nat)) M p.2 := by
  unfold fX5_addPerson at h
  by_cases hc1 : (sp_I M o0 8) < 5
  · have h := (if_pos hc1).symm.trans h
    obtain ⟨j2, hj2, h⟩ := Option.bind_eq_some_iff.mp h
    obtain ⟨M3, hM3, h⟩ := sp_do_e h
    refine sp_fr.tr (sp_fr_I (Or.inl (by first | decide | simp)) hM3) ?_
    obtain ⟨j4, hj4, h⟩ := Option.bind_eq_some_iff.mp h
    obtain ⟨M5, hM5, h⟩ := sp_do_e h
    refine sp_fr.tr (sp_fr_I (Or.inl (by first | decide | simp)) hM5) ?_
    obtain ⟨j6, hj6, h⟩ := Option.bind_eq_some_iff.mp h
    obtain ⟨M7, hM7, h⟩ := sp_do_e h
    refine sp_fr.tr (sp_fr_I (Or.inl (by first | decide | simp)) hM7) ?_
    obtain ⟨M8, hM8, h⟩ := sp_do_e h
    refine sp_fr.tr (sp_fr_I (Or.inr (by first | decide | simp)) hM8) ?_
    cases h
    exact sp_fr.refl _ _ _
  · have h := (if_neg hc1).symm.trans h
    cases h
    exact sp_fr.refl _ _ _
set_option maxRecDepth 100000 in
theorem frX5_addAnswer {o0 : Nat} {p : (Int32 × sp_Mem)} {M : sp_Mem} {a1 : Int32} {a2 : Int32} (h : fX5_addAnswer M o0 a1 a2 = some p) : sp_fr [(o0 + 8), (o0 + 9)] ([(o0, 11)] : List (Nat × Nat)) M p.2 := by
  unfold fX5_addAnswer at h
  by_cases hc1 : (sp_I M o0 11) < 6
  · have h := (if_pos hc1).symm.trans h
    obtain ⟨j2, hj2, h⟩ := Option.bind_eq_some_iff.mp h
    obtain ⟨M3, hM3, h⟩ := sp_do_e h
    refine sp_fr.tr (sp_fr_I (Or.inl (by first | decide | simp)) hM3) ?_
    obtain ⟨j4, hj4, h⟩ := Option.bind_eq_some_iff.mp h
    obtain ⟨M5, hM5, h⟩ := sp_do_e h
    refine sp_fr.tr (sp_fr_I (Or.inl (by first | decide | simp)) hM5) ?_
    obtain ⟨M6, hM6, h⟩ := sp_do_e h
    refine sp_fr.tr (sp_fr_I (Or.inr (by first | decide | simp)) hM6) ?_
    cases h
    exact sp_fr.refl _ _ _
  · have h := (if_neg hc1).symm.trans h
    cases h
    exact sp_fr.refl _ _ _
set_option maxRecDepth 100000 in
theorem frX5_addLaw {o0 : Nat} {o1 : Nat} {p : (Int32 × sp_Mem)} {M : sp_Mem} (h : fX5_addLaw M o0 o1 = some p) : sp_fr [(o0 + 11)] ([(o0, 14)] : List (Nat × Nat)) M p.2 := by
  unfold fX5_addLaw at h
  by_cases hc1 : (sp_I M o0 14) < 6
  · have h := (if_pos hc1).symm.trans h
    obtain ⟨j2, hj2, h⟩ := Option.bind_eq_some_iff.mp h
    obtain ⟨M3, hM3, h⟩ := sp_do_e h
    refine sp_fr.tr (sp_fr_P (Or.inl (by first | decide | simp)) hM3) ?_
    obtain ⟨M4, hM4, h⟩ := sp_do_e h
    refine sp_fr.tr (sp_fr_I (Or.inr (by first | decide | simp)) hM4) ?_
    cases h
    exact sp_fr.refl _ _ _
  · have h := (if_neg hc1).symm.trans h
    cases h
    exact sp_fr.refl _ _ _
set_option maxRecDepth 100000 in
theorem frX5_wetCell {o0 : Nat} {p : (Int32 × sp_Mem)} {M : sp_Mem} {a1 : Int32} (h : fX5_wetCell M o0 a1 = some p) : sp_fr [(o0 + 1)] ([] : List (Nat × Nat)) M p.2 := by
  unfold fX5_wetCell at h
  by_cases hc1 : (fX10_isCell a1) = 0
  · have h := (if_pos hc1).symm.trans h
    cases h
    exact sp_fr.refl _ _ _
  · have h := (if_neg hc1).symm.trans h
    obtain ⟨j2, hj2, h⟩ := Option.bind_eq_some_iff.mp h
    obtain ⟨u3, hu3, h⟩ := sp_do_e h
    by_cases hc4 : u3 = 1
    · have h := (if_pos hc4).symm.trans h
      cases h
      exact sp_fr.refl _ _ _
    · have h := (if_neg hc4).symm.trans h
      by_cases hc5 : u3 = 3
      · have h := (if_pos hc5).symm.trans h
        cases h
        exact sp_fr.refl _ _ _
      · have h := (if_neg hc5).symm.trans h
        obtain ⟨j6, hj6, h⟩ := Option.bind_eq_some_iff.mp h
        obtain ⟨M7, hM7, h⟩ := sp_do_e h
        refine sp_fr.tr (sp_fr_I (Or.inl (by first | decide | simp)) hM7) ?_
        cases h
        exact sp_fr.refl _ _ _
set_option maxRecDepth 100000 in
theorem frX6_isShunned {F : Nat} {o1 : Nat} {p : (Int32 × sp_Mem)} {M : sp_Mem} {a2 : Int32} {a3 : Int32} {a4 : Int32} (h : fX6_isShunned F M o1 a2 a3 a4 = some p) : sp_fr [4, 3] ([] : List (Nat × Nat)) M p.2 := by
  unfold fX6_isShunned at h
  obtain ⟨x1, hx1, h⟩ := Option.bind_eq_some_iff.mp h
  refine sp_fr.tr (sp_fr.mono (by first | decide | simp) (by first | decide | simp) (frX6_toldBy hx1)) ?_
  cases h
  exact sp_fr.refl _ _ _
set_option maxRecDepth 100000 in
theorem frX6_isSo {F : Nat} {o1 : Nat} {o3 : Nat} {p : (Int32 × sp_Mem)} {M : sp_Mem} {a2 : Int32} (h : fX6_isSo F M o1 a2 o3 = some p) : sp_fr [3] ([] : List (Nat × Nat)) M p.2 := by
  unfold fX6_isSo at h
  obtain ⟨v1, hv1, h⟩ := Option.bind_eq_some_iff.mp h
  by_cases hc2 : v1 = (-1)
  · have h := (if_pos hc2).symm.trans h
    cases h
    exact sp_fr.refl _ _ _
  · have h := (if_neg hc2).symm.trans h
    obtain ⟨x3, hx3, h⟩ := Option.bind_eq_some_iff.mp h
    refine sp_fr.tr (sp_fr.mono (by first | decide | simp) (by first | decide | simp) (frX0_value hx3)) ?_
    cases h
    exact sp_fr.refl _ _ _
set_option maxRecDepth 100000 in
theorem frX6_sumOf {F : Nat} {o1 : Nat} {o4 : Nat} {p : (Int32 × sp_Mem)} {M : sp_Mem} {a2 : Int32} {a3 : Int32} (h : fX6_sumOf F M o1 a2 a3 o4 = some p) : sp_fr [3] ([] : List (Nat × Nat)) M p.2 := by
  unfold fX6_sumOf at h
  obtain ⟨v1, hv1, h⟩ := Option.bind_eq_some_iff.mp h
  by_cases hc2 : v1 = (-1)
  · have h := (if_pos hc2).symm.trans h
    cases h
    exact sp_fr.refl _ _ _
  · have h := (if_neg hc2).symm.trans h
    obtain ⟨x3, hx3, h⟩ := Option.bind_eq_some_iff.mp h
    refine sp_fr.tr (sp_fr.mono (by first | decide | simp) (by first | decide | simp) (frX0_value hx3)) ?_
    cases h
    exact sp_fr.refl _ _ _
set_option maxRecDepth 100000 in
theorem frX7_copyFrom {F : Nat} {o0 : Nat} {o1 : Nat} {p : sp_Mem} {M : sp_Mem} (h : fX7_copyFrom F M o0 o1 = some p) : sp_fr [((o0 + 1) + 1), ((o0 + 1) + 2), ((o0 + 1) + 3), ((o0 + 1) + 4), ((o0 + 1) + 5), ((o0 + 1) + 6), ((o0 + 1) + 7), ((o0 + 1) + 8), ((o0 + 1) + 9), ((o0 + 1) + 10), ((o0 + 1) + 11), ((o0 + 13) + 1), ((o0 + 13) + 2)] ([((o0 + 1), 4), ((o0 + 1), 8), ((o0 + 1), 11), ((o0 + 1), 14), ((o0 + 1), 15), ((o0 + 13), 2), ((o0 + 13), 3)] : List (Nat × Nat)) M p := by
  unfold fX7_copyFrom at h
  obtain ⟨M1, hM1, h⟩ := Option.bind_eq_some_iff.mp h
  refine sp_fr.tr (sp_fr.mono (by first | decide | simp) (by first | decide | simp) (frX5_copyFrom hM1)) ?_
  obtain ⟨M2, hM2, h⟩ := Option.bind_eq_some_iff.mp h
  refine sp_fr.tr (sp_fr.mono (by first | decide | simp) (by first | decide | simp) (frX3_copyFrom hM2)) ?_
  cases h
  exact sp_fr.refl _ _ _
set_option maxRecDepth 100000 in
theorem frX7_perform_j136 {F : Nat} {o0 : Nat} {p : (Int32 × sp_Mem)} (a1 : Int32) (a4 : Int32) (M : sp_Mem) (h : fX7_perform_j136 F o0 a1 a4 M = some p) : sp_fr [((o0 + 13) + 1), 4, 3, ((o0 + 1) + 2), ((o0 + 1) + 3), ((o0 + 13) + 2), ((o0 + 1) + 1), ((o0 + 1) + 5), ((o0 + 1) + 10)] ([((o0 + 13), 2), ((o0 + 13), 3)] : List (Nat × Nat)) M p.2 := by
  unfold fX7_perform_j136 at h
  by_cases hc4 : a4 < 0
  · have h := (if_pos hc4).symm.trans h
    cases h
    exact sp_fr.refl _ _ _
  · have h := (if_neg hc4).symm.trans h
    obtain ⟨M5, hM5, h⟩ := Option.bind_eq_some_iff.mp h
    refine sp_fr.tr (sp_fr.mono (by first | decide | simp) (by first | decide | simp) (frX3_keep hM5)) ?_
    cases h
    exact sp_fr.refl _ _ _
set_option maxRecDepth 100000 in
theorem frX7_perform {F : Nat} {o0 : Nat} {p : (Int32 × sp_Mem)} {M : sp_Mem} {a1 : Int32} {a2 : Int32} {a3 : Int32} (h : fX7_perform F M o0 a1 a2 a3 = some p) : sp_fr [((o0 + 13) + 1), 4, 3, ((o0 + 1) + 2), ((o0 + 1) + 3), ((o0 + 13) + 2), ((o0 + 1) + 1), ((o0 + 1) + 5), ((o0 + 1) + 10)] ([((o0 + 13), 2), ((o0 + 13), 3)] : List (Nat × Nat)) M p.2 := by
  unfold fX7_perform at h
  obtain ⟨M1, hM1, h⟩ := Option.bind_eq_some_iff.mp h
  refine sp_fr.tr (sp_fr.mono (by first | decide | simp) (by first | decide | simp) (frX3_prepare hM1)) ?_
  by_cases hc2 : a1 = 0
  · have h := (if_pos hc2).symm.trans h
    obtain ⟨x3, hx3, h⟩ := Option.bind_eq_some_iff.mp h
    refine sp_fr.tr (sp_fr.mono (by first | decide | simp) (by first | decide | simp) (frX6_callSpark hx3)) ?_
    exact frX7_perform_j136 _ _ _ h
  have h := (if_neg hc2).symm.trans h
  by_cases hc6 : a1 = 1
  · have h := (if_pos hc6).symm.trans h
    obtain ⟨x7, hx7, h⟩ := Option.bind_eq_some_iff.mp h
    refine sp_fr.tr (sp_fr.mono (by first | decide | simp) (by first | decide | simp) (frX5_wetCell hx7)) ?_
    exact frX7_perform_j136 _ _ _ h
  have h := (if_neg hc6).symm.trans h
  by_cases hc8 : a1 = 2
  · have h := (if_pos hc8).symm.trans h
    obtain ⟨x9, hx9, h⟩ := Option.bind_eq_some_iff.mp h
    refine sp_fr.tr (sp_fr.mono (by first | decide | simp) (by first | decide | simp) (frX5_walkPerson hx9)) ?_
    exact frX7_perform_j136 _ _ _ h
  have h := (if_neg hc8).symm.trans h
  by_cases hc10 : 999 ≤ (sp_I M1 ((o0 + 1) + 10) 0)
  · have h := (if_pos hc10).symm.trans h
    exact frX7_perform_j136 _ _ _ h
  · have h := (if_neg hc10).symm.trans h
    obtain ⟨M11, hM11, h⟩ := Option.bind_eq_some_iff.mp h
    refine sp_fr.tr (sp_fr.mono (by first | decide | simp) (by first | decide | simp) (frX6_passMinute hM11)) ?_
    obtain ⟨u12, hu12, h⟩ := sp_do_e h
    exact frX7_perform_j136 _ _ _ h
set_option maxRecDepth 100000 in
theorem frX7_startOrders {o0 : Nat} {p : sp_Mem} {M : sp_Mem} (h : fX7_startOrders M o0 = some p) : sp_fr [] ([(o0, 5), (o0, 4)] : List (Nat × Nat)) M p := by
  unfold fX7_startOrders at h
  obtain ⟨M1, hM1, h⟩ := sp_do_e h
  refine sp_fr.tr (sp_fr_I (Or.inr (by first | decide | simp)) hM1) ?_
  obtain ⟨M2, hM2, h⟩ := sp_do_e h
  refine sp_fr.tr (sp_fr_I (Or.inr (by first | decide | simp)) hM2) ?_
  cases h
  exact sp_fr.refl _ _ _
set_option maxRecDepth 100000 in
theorem frX7_lookAround_j89 {F : Nat} {o0 : Nat} {kb : Int32 → sp_Mem → Option sp_Mem} {kx : sp_Mem → Option sp_Mem} {p : sp_Mem} (hb : ∀ (a1 : Int32) (M : sp_Mem), kb a1 M = some p → sp_fr [(o0 + 16)] ([] : List (Nat × Nat)) M p) (hx : ∀  (M : sp_Mem), kx M = some p → sp_fr [(o0 + 16)] ([] : List (Nat × Nat)) M p) (a1 : Int32) (a2 : Int32) (s0 : Int32) (s1 : Int32) (M : sp_Mem) (h : fX7_lookAround_j89 F o0 kb kx a1 a2 s0 s1 M = some p) : sp_fr [(o0 + 16)] ([] : List (Nat × Nat)) M p := by
  unfold fX7_lookAround_j89 at h
  obtain ⟨j9, hj9, h⟩ := Option.bind_eq_some_iff.mp h
  obtain ⟨M10, hM10, h⟩ := sp_do_e h
  refine sp_fr.tr (sp_fr_I (Or.inl (by first | decide | simp)) hM10) ?_
  by_cases hc11 : a2 = 0
  · have h := (if_pos hc11).symm.trans h
    obtain ⟨j12, hj12, h⟩ := Option.bind_eq_some_iff.mp h
    obtain ⟨M13, hM13, h⟩ := sp_do_e h
    refine sp_fr.tr (sp_fr_I (Or.inl (by first | decide | simp)) hM13) ?_
    exact hb _ _ h
  · have h := (if_neg hc11).symm.trans h
    obtain ⟨j14, hj14, h⟩ := Option.bind_eq_some_iff.mp h
    obtain ⟨j15, hj15, h⟩ := Option.bind_eq_some_iff.mp h
    obtain ⟨M16, hM16, h⟩ := sp_do_e h
    refine sp_fr.tr (sp_fr_I (Or.inl (by first | decide | simp)) hM16) ?_
    exact hb _ _ h
set_option maxRecDepth 100000 in
theorem frX7_lookAround_l50 {F : Nat} {o0 : Nat} {kx : sp_Mem → Option sp_Mem} {p : sp_Mem} (hx : ∀  (M : sp_Mem), kx M = some p → sp_fr [(o0 + 16)] ([] : List (Nat × Nat)) M p) : ∀ (n : Nat) (a1 : Int32) (M : sp_Mem), fX7_lookAround_l50 F o0 kx n a1 M = some p → sp_fr [(o0 + 16)] ([] : List (Nat × Nat)) M p := by
  intro n
  induction n with
  | zero =>
    intro a1 M h
    rw [fX7_lookAround_l50] at h
    cases h
  | succ n ih =>
    intro a1 M h
    rw [fX7_lookAround_l50] at h
    by_cases hc6 : 6 ≤ a1
    · have h := (if_pos hc6).symm.trans h
      exact hx _ h
    · have h := (if_neg hc6).symm.trans h
      obtain ⟨u7, hu7, h⟩ := sp_do_e h
      by_cases hc8 : u7 = 0
      · have h := (if_pos hc8).symm.trans h
        exact frX7_lookAround_j89 ih hx _ _ _ _ _ h
      · have h := (if_neg hc8).symm.trans h
        obtain ⟨j17, hj17, h⟩ := Option.bind_eq_some_iff.mp h
        exact frX7_lookAround_j89 ih hx _ _ _ _ _ h
set_option maxRecDepth 100000 in
theorem frX7_lookAround {F : Nat} {o0 : Nat} {p : sp_Mem} {M : sp_Mem} (h : fX7_lookAround F M o0 = some p) : sp_fr [(o0 + 16)] ([] : List (Nat × Nat)) M p := by
  unfold fX7_lookAround at h
  obtain ⟨M1, hM1, h⟩ := sp_do_e h
  refine sp_fr.tr (sp_fr_I (Or.inl (by first | decide | simp)) hM1) ?_
  obtain ⟨M2, hM2, h⟩ := sp_do_e h
  refine sp_fr.tr (sp_fr_I (Or.inl (by first | decide | simp)) hM2) ?_
  obtain ⟨M3, hM3, h⟩ := sp_do_e h
  refine sp_fr.tr (sp_fr_I (Or.inl (by first | decide | simp)) hM3) ?_
  obtain ⟨v4, hv4, h⟩ := Option.bind_eq_some_iff.mp h
  obtain ⟨M5, hM5, h⟩ := sp_do_e h
  refine sp_fr.tr (sp_fr_I (Or.inl (by first | decide | simp)) hM5) ?_
  refine frX7_lookAround_l50 (fun M18 h => ?_) F _ _ h
  cases h
  exact sp_fr.refl _ _ _
set_option maxRecDepth 100000 in
theorem frX7_runClause_j105 {F : Nat} {o0 : Nat} {o1 : Nat} {kb : Int32 → Int32 → Int32 → Int32 → sp_Mem → Option (Int32 × sp_Mem)} {kx : sp_Mem → Option (Int32 × sp_Mem)} {p : (Int32 × sp_Mem)} (hb : ∀ (a2 : Int32) (a3 : Int32) (a4 : Int32) (a5 : Int32) (M : sp_Mem), kb a2 a3 a4 a5 M = some p → sp_fr [(o0 + 16), 3, ((o0 + 13) + 1), 4, ((o0 + 1) + 2), ((o0 + 1) + 3), ((o0 + 13) + 2), ((o0 + 1) + 1), ((o0 + 1) + 5), ((o0 + 1) + 10)] ([(o0, 5), (o0, 4), ((o0 + 13), 2), ((o0 + 13), 3)] : List (Nat × Nat)) M p.2) (hx : ∀  (M : sp_Mem), kx M = some p → sp_fr [(o0 + 16), 3, ((o0 + 13) + 1), 4, ((o0 + 1) + 2), ((o0 + 1) + 3), ((o0 + 13) + 2), ((o0 + 1) + 1), ((o0 + 1) + 5), ((o0 + 1) + 10)] ([(o0, 5), (o0, 4), ((o0 + 13), 2), ((o0 + 13), 3)] : List (Nat × Nat)) M p.2) (a2 : Int32) (a3 : Int32) (a4 : Int32) (a5 : Int32) (s0 : Int32) (M : sp_Mem) (h : fX7_runClause_j105 F o0 o1 kb kx a2 a3 a4 a5 s0 M = some p) : sp_fr [(o0 + 16), 3, ((o0 + 13) + 1), 4, ((o0 + 1) + 2), ((o0 + 1) + 3), ((o0 + 13) + 2), ((o0 + 1) + 1), ((o0 + 1) + 5), ((o0 + 1) + 10)] ([(o0, 5), (o0, 4), ((o0 + 13), 2), ((o0 + 13), 3)] : List (Nat × Nat)) M p.2 := by
  unfold fX7_runClause_j105 at h
  by_cases hc10 : 0 ≤ s0
  · have h := (if_pos hc10).symm.trans h
    obtain ⟨M11, hM11, h⟩ := sp_do_e h
    refine sp_fr.tr (sp_fr_I (Or.inr (by first | decide | simp)) hM11) ?_
    by_cases hc12 : a3 = 0
    · have h := (if_pos hc12).symm.trans h
      obtain ⟨M14, hM14, h⟩ := sp_do_e h
      refine sp_fr.tr (sp_fr_I (Or.inr (by first | decide | simp)) hM14) ?_
      exact hb _ _ _ _ _ h
    · have h := (if_neg hc12).symm.trans h
      obtain ⟨M13, hM13, h⟩ := sp_do_e h
      refine sp_fr.tr (sp_fr_I (Or.inr (by first | decide | simp)) hM13) ?_
      exact hb _ _ _ _ _ h
  · have h := (if_neg hc10).symm.trans h
    cases h
    exact sp_fr.refl _ _ _
set_option maxRecDepth 100000 in
theorem frX7_runClause_j91 {F : Nat} {o0 : Nat} {o1 : Nat} {kb : Int32 → Int32 → Int32 → Int32 → sp_Mem → Option (Int32 × sp_Mem)} {kx : sp_Mem → Option (Int32 × sp_Mem)} {p : (Int32 × sp_Mem)} (hb : ∀ (a2 : Int32) (a3 : Int32) (a4 : Int32) (a5 : Int32) (M : sp_Mem), kb a2 a3 a4 a5 M = some p → sp_fr [(o0 + 16), 3, ((o0 + 13) + 1), 4, ((o0 + 1) + 2), ((o0 + 1) + 3), ((o0 + 13) + 2), ((o0 + 1) + 1), ((o0 + 1) + 5), ((o0 + 1) + 10)] ([(o0, 5), (o0, 4), ((o0 + 13), 2), ((o0 + 13), 3)] : List (Nat × Nat)) M p.2) (hx : ∀  (M : sp_Mem), kx M = some p → sp_fr [(o0 + 16), 3, ((o0 + 13) + 1), 4, ((o0 + 1) + 2), ((o0 + 1) + 3), ((o0 + 13) + 2), ((o0 + 1) + 1), ((o0 + 1) + 5), ((o0 + 1) + 10)] ([(o0, 5), (o0, 4), ((o0 + 13), 2), ((o0 + 13), 3)] : List (Nat × Nat)) M p.2) (a2 : Int32) (a3 : Int32) (a4 : Int32) (a5 : Int32) (M : sp_Mem) (h : fX7_runClause_j91 F o0 o1 kb kx a2 a3 a4 a5 M = some p) : sp_fr [(o0 + 16), 3, ((o0 + 13) + 1), 4, ((o0 + 1) + 2), ((o0 + 1) + 3), ((o0 + 13) + 2), ((o0 + 1) + 1), ((o0 + 1) + 5), ((o0 + 1) + 10)] ([(o0, 5), (o0, 4), ((o0 + 13), 2), ((o0 + 13), 3)] : List (Nat × Nat)) M p.2 := by
  unfold fX7_runClause_j91 at h
  exact frX7_runClause_j105 hb hx _ _ _ _ _ _ h
set_option maxRecDepth 100000 in
theorem frX7_runClause_l18 {F : Nat} {o0 : Nat} {o1 : Nat} {kx : sp_Mem → Option (Int32 × sp_Mem)} {p : (Int32 × sp_Mem)} (hx : ∀  (M : sp_Mem), kx M = some p → sp_fr [(o0 + 16), 3, ((o0 + 13) + 1), 4, ((o0 + 1) + 2), ((o0 + 1) + 3), ((o0 + 13) + 2), ((o0 + 1) + 1), ((o0 + 1) + 5), ((o0 + 1) + 10)] ([(o0, 5), (o0, 4), ((o0 + 13), 2), ((o0 + 13), 3)] : List (Nat × Nat)) M p.2) : ∀ (n : Nat) (a2 : Int32) (a3 : Int32) (a4 : Int32) (a5 : Int32) (M : sp_Mem), fX7_runClause_l18 F o0 o1 kx n a2 a3 a4 a5 M = some p → sp_fr [(o0 + 16), 3, ((o0 + 13) + 1), 4, ((o0 + 1) + 2), ((o0 + 1) + 3), ((o0 + 13) + 2), ((o0 + 1) + 1), ((o0 + 1) + 5), ((o0 + 1) + 10)] ([(o0, 5), (o0, 4), ((o0 + 13), 2), ((o0 + 13), 3)] : List (Nat × Nat)) M p.2 := by
  intro n
  induction n with
  | zero =>
    intro a2 a3 a4 a5 M h
    rw [fX7_runClause_l18] at h
    cases h
  | succ n ih =>
    intro a2 a3 a4 a5 M h
    rw [fX7_runClause_l18] at h
    by_cases hc3 : a4 ≤ a5
    · have h := (if_pos hc3).symm.trans h
      exact hx _ h
    · have h := (if_neg hc3).symm.trans h
      obtain ⟨M4, hM4, h⟩ := Option.bind_eq_some_iff.mp h
      refine sp_fr.tr (sp_fr.mono (by first | decide | simp) (by first | decide | simp) (frX7_lookAround hM4)) ?_
      obtain ⟨x5, hx5, h⟩ := Option.bind_eq_some_iff.mp h
      refine sp_fr.tr (sp_fr.mono (by first | decide | simp) (by first | decide | simp) (frX6_isSo hx5)) ?_
      by_cases hc6 : x5.1 = 0
      · have h := (if_pos hc6).symm.trans h
        exact ih _ _ _ _ _ h
      · have h := (if_neg hc6).symm.trans h
        obtain ⟨x7, hx7, h⟩ := Option.bind_eq_some_iff.mp h
        refine sp_fr.tr (sp_fr.mono (by first | decide | simp) (by first | decide | simp) (frX6_sumOf hx7)) ?_
        obtain ⟨x8, hx8, h⟩ := Option.bind_eq_some_iff.mp h
        refine sp_fr.tr (sp_fr.mono (by first | decide | simp) (by first | decide | simp) (frX6_sumOf hx8)) ?_
        by_cases hc9 : x7.1 = (-2000000000)
        · have h := (if_pos hc9).symm.trans h
          exact frX7_runClause_j91 ih hx _ _ _ _ _ h
        · have h := (if_neg hc9).symm.trans h
          by_cases hc15 : x8.1 = (-2000000000)
          · have h := (if_pos hc15).symm.trans h
            exact frX7_runClause_j91 ih hx _ _ _ _ _ h
          · have h := (if_neg hc15).symm.trans h
            obtain ⟨x16, hx16, h⟩ := Option.bind_eq_some_iff.mp h
            refine sp_fr.tr (sp_fr.mono (by first | decide | simp) (by first | decide | simp) (frX7_perform hx16)) ?_
            exact frX7_runClause_j105 ih hx _ _ _ _ _ _ h
set_option maxRecDepth 100000 in
theorem frX7_runClause {F : Nat} {o0 : Nat} {o1 : Nat} {p : (Int32 × sp_Mem)} {M : sp_Mem} {a2 : Int32} (h : fX7_runClause F M o0 o1 a2 = some p) : sp_fr [(o0 + 16), 3, ((o0 + 13) + 1), 4, ((o0 + 1) + 2), ((o0 + 1) + 3), ((o0 + 13) + 2), ((o0 + 1) + 1), ((o0 + 1) + 5), ((o0 + 1) + 10)] ([(o0, 5), (o0, 4), ((o0 + 13), 2), ((o0 + 13), 3)] : List (Nat × Nat)) M p.2 := by
  unfold fX7_runClause at h
  obtain ⟨v1, hv1, h⟩ := Option.bind_eq_some_iff.mp h
  obtain ⟨v2, hv2, h⟩ := Option.bind_eq_some_iff.mp h
  refine frX7_runClause_l18 (fun M17 h => ?_) F _ _ _ _ _ h
  cases h
  exact sp_fr.refl _ _ _
set_option maxRecDepth 100000 in
theorem frX8_append_l3 {F : Nat} {kx : sp_Mem → Option sp_Mem} {p : sp_Mem} (hx : ∀  (M : sp_Mem), kx M = some p → sp_fr [95] ([(94, 1)] : List (Nat × Nat)) M p) : ∀ (n : Nat) (a1 : Int32) (a2 : Int32) (M : sp_Mem), fX8_append_l3 F kx n a1 a2 M = some p → sp_fr [95] ([(94, 1)] : List (Nat × Nat)) M p := by
  intro n
  induction n with
  | zero =>
    intro a1 a2 M h
    rw [fX8_append_l3] at h
    cases h
  | succ n ih =>
    intro a1 a2 M h
    rw [fX8_append_l3] at h
    by_cases hc1 : a2 < 0
    · have h := (if_pos hc1).symm.trans h
      exact hx _ h
    · have h := (if_neg hc1).symm.trans h
      by_cases hc2 : 400 ≤ (sp_I M 94 1)
      · have h := (if_pos hc2).symm.trans h
        exact hx _ h
      · have h := (if_neg hc2).symm.trans h
        obtain ⟨j3, hj3, h⟩ := Option.bind_eq_some_iff.mp h
        obtain ⟨M4, hM4, h⟩ := sp_do_e h
        refine sp_fr.tr (sp_fr_I (Or.inl (by first | decide | simp)) hM4) ?_
        obtain ⟨M5, hM5, h⟩ := sp_do_e h
        refine sp_fr.tr (sp_fr_I (Or.inr (by first | decide | simp)) hM5) ?_
        exact ih _ _ _ h
set_option maxRecDepth 100000 in
theorem frX8_append {F : Nat} {p : sp_Mem} {M : sp_Mem} {a1 : Int32} (h : fX8_append F M a1 = some p) : sp_fr [95] ([(94, 1)] : List (Nat × Nat)) M p := by
  unfold fX8_append at h
  refine frX8_append_l3 (fun M6 h => ?_) F _ _ _ h
  cases h
  exact sp_fr.refl _ _ _
set_option maxRecDepth 100000 in
theorem frX10_refuse {p : (Int32 × sp_Mem)} {M : sp_Mem} {a1 : Int32} (h : fX10_refuse M a1 = some p) : sp_fr [102] ([(0, 12)] : List (Nat × Nat)) M p.2 := by
  unfold fX10_refuse at h
  obtain ⟨M1, hM1, h⟩ := sp_do_e h
  refine sp_fr.tr (sp_fr_I (Or.inr (by first | decide | simp)) hM1) ?_
  by_cases hc2 : (fX10_isWithin (-a1) 0 6) = 0
  · have h := (if_pos hc2).symm.trans h
    cases h
    exact sp_fr.refl _ _ _
  · have h := (if_neg hc2).symm.trans h
    obtain ⟨j3, hj3, h⟩ := Option.bind_eq_some_iff.mp h
    obtain ⟨j4, hj4, h⟩ := Option.bind_eq_some_iff.mp h
    obtain ⟨M5, hM5, h⟩ := sp_do_e h
    refine sp_fr.tr (sp_fr_I (Or.inl (by first | decide | simp)) hM5) ?_
    cases h
    exact sp_fr.refl _ _ _
