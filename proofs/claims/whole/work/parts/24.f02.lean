set_option maxRecDepth 100000 in
theorem frX11_sodden_l46 {F : Nat} {kx : Int32 → sp_Mem → Option (Int32 × sp_Mem)} {p : (Int32 × sp_Mem)} (hx : ∀ (a3 : Int32) (M : sp_Mem), kx a3 M = some p → sp_fr [127, 128] ([(103, 0)] : List (Nat × Nat)) M p.2) : ∀ (n : Nat) (a3 : Int32) (a4 : Int32) (M : sp_Mem), fX11_sodden_l46 F kx n a3 a4 M = some p → sp_fr [127, 128] ([(103, 0)] : List (Nat × Nat)) M p.2 := by
  intro n
  induction n with
  | zero =>
    intro a3 a4 M h
    rw [fX11_sodden_l46] at h
    cases h
  | succ n ih =>
    intro a3 a4 M h
    rw [fX11_sodden_l46] at h
    by_cases hc8 : 25 ≤ a4
    · have h := (if_pos hc8).symm.trans h
      exact hx _ _ h
    · have h := (if_neg hc8).symm.trans h
      obtain ⟨j9, hj9, h⟩ := Option.bind_eq_some_iff.mp h
      obtain ⟨j10, hj10, h⟩ := Option.bind_eq_some_iff.mp h
      obtain ⟨u12, hu12, h⟩ := sp_do_e h
      exact ih _ _ _ h
set_option maxRecDepth 100000 in
theorem frX11_sodden {F : Nat} {p : (Int32 × sp_Mem)} {M : sp_Mem} {a1 : Int32} {a2 : Int32} (h : fX11_sodden F M a1 a2 = some p) : sp_fr [127, 128] ([(103, 0)] : List (Nat × Nat)) M p.2 := by
  unfold fX11_sodden at h
  obtain ⟨M1, hM1, h⟩ := sp_do_e h
  refine sp_fr.tr (sp_fr_I (Or.inr (by first | decide | simp)) hM1) ?_
  obtain ⟨v2, hv2, h⟩ := Option.bind_eq_some_iff.mp h
  by_cases hc3 : v2 = 0
  · have h := (if_pos hc3).symm.trans h
    cases h
    exact sp_fr.refl _ _ _
  · have h := (if_neg hc3).symm.trans h
    by_cases hc4 : (fX11_in (Int32.toInt64 a2) 0 60) = 0
    · have h := (if_pos hc4).symm.trans h
      cases h
      exact sp_fr.refl _ _ _
    · have h := (if_neg hc4).symm.trans h
      obtain ⟨v5, hv5, h⟩ := Option.bind_eq_some_iff.mp h
      by_cases hc6 : v5 = 0
      · have h := (if_pos hc6).symm.trans h
        cases h
        exact sp_fr.refl _ _ _
      · have h := (if_neg hc6).symm.trans h
        obtain ⟨M7, hM7, h⟩ := Option.bind_eq_some_iff.mp h
        refine sp_fr.tr (sp_fr.mono (by first | decide | simp) (by first | decide | simp) (frX11_layDrift hM7)) ?_
        refine frX11_sodden_l46 (fun b14 M13 h => ?_) F _ _ _ h
        cases h
        exact sp_fr.refl _ _ _
set_option maxRecDepth 100000 in
theorem frX11_hot_l50 {F : Nat} {kx : Int32 → sp_Mem → Option (Int32 × sp_Mem)} {p : (Int32 × sp_Mem)} (hx : ∀ (a3 : Int32) (M : sp_Mem), kx a3 M = some p → sp_fr [105, 108, 124, 121, 123, 125] ([(103, 0), (103, 34), (103, 38), (103, 39), (103, 40)] : List (Nat × Nat)) M p.2) : ∀ (n : Nat) (a2 : Int32) (a3 : Int32) (a4 : Int32) (M : sp_Mem), fX11_hot_l50 F kx n a2 a3 a4 M = some p → sp_fr [105, 108, 124, 121, 123, 125] ([(103, 0), (103, 34), (103, 38), (103, 39), (103, 40)] : List (Nat × Nat)) M p.2 := by
  intro n
  induction n with
  | zero =>
    intro a2 a3 a4 M h
    rw [fX11_hot_l50] at h
    cases h
  | succ n ih =>
    intro a2 a3 a4 M h
    rw [fX11_hot_l50] at h
    by_cases hc8 : a2 ≤ a4
    · have h := (if_pos hc8).symm.trans h
      exact hx _ _ h
    · have h := (if_neg hc8).symm.trans h
      obtain ⟨M9, hM9, h⟩ := Option.bind_eq_some_iff.mp h
      refine sp_fr.tr (sp_fr.mono (by first | decide | simp) (by first | decide | simp) (frX11_passIt hM9)) ?_
      exact ih _ _ _ _ h
set_option maxRecDepth 100000 in
theorem frX11_hot_l72 {F : Nat} {kx : Int32 → Int32 → sp_Mem → Option (Int32 × sp_Mem)} {p : (Int32 × sp_Mem)} (hx : ∀ (a3 : Int32) (a4 : Int32) (M : sp_Mem), kx a3 a4 M = some p → sp_fr [105, 108, 124, 121, 123, 125] ([(103, 0), (103, 34), (103, 38), (103, 39), (103, 40)] : List (Nat × Nat)) M p.2) : ∀ (n : Nat) (a3 : Int32) (a4 : Int32) (a5 : Int32) (M : sp_Mem), fX11_hot_l72 F kx n a3 a4 a5 M = some p → sp_fr [105, 108, 124, 121, 123, 125] ([(103, 0), (103, 34), (103, 38), (103, 39), (103, 40)] : List (Nat × Nat)) M p.2 := by
  intro n
  induction n with
  | zero =>
    intro a3 a4 a5 M h
    rw [fX11_hot_l72] at h
    cases h
  | succ n ih =>
    intro a3 a4 a5 M h
    rw [fX11_hot_l72] at h
    by_cases hc12 : (sp_I M 105 0) ≤ a5
    · have h := (if_pos hc12).symm.trans h
      exact hx _ _ _ h
    · have h := (if_neg hc12).symm.trans h
      obtain ⟨j13, hj13, h⟩ := Option.bind_eq_some_iff.mp h
      obtain ⟨u14, hu14, h⟩ := sp_do_e h
      exact ih _ _ _ _ h
set_option maxRecDepth 100000 in
theorem frX11_hot {F : Nat} {p : (Int32 × sp_Mem)} {M : sp_Mem} {a1 : Int32} {a2 : Int32} (h : fX11_hot F M a1 a2 = some p) : sp_fr [105, 108, 124, 121, 123, 125] ([(103, 0), (103, 34), (103, 38), (103, 39), (103, 40)] : List (Nat × Nat)) M p.2 := by
  unfold fX11_hot at h
  obtain ⟨M1, hM1, h⟩ := sp_do_e h
  refine sp_fr.tr (sp_fr_I (Or.inr (by first | decide | simp)) hM1) ?_
  obtain ⟨v2, hv2, h⟩ := Option.bind_eq_some_iff.mp h
  by_cases hc3 : v2 = 0
  · have h := (if_pos hc3).symm.trans h
    cases h
    exact sp_fr.refl _ _ _
  · have h := (if_neg hc3).symm.trans h
    by_cases hc4 : (fX11_in (Int32.toInt64 a2) 0 60) = 0
    · have h := (if_pos hc4).symm.trans h
      cases h
      exact sp_fr.refl _ _ _
    · have h := (if_neg hc4).symm.trans h
      obtain ⟨u5, hu5, h⟩ := sp_do_e h
      obtain ⟨M6, hM6, h⟩ := sp_do_e h
      refine sp_fr.tr (sp_fr_I (Or.inl (by first | decide | simp)) hM6) ?_
      obtain ⟨M7, hM7, h⟩ := Option.bind_eq_some_iff.mp h
      refine sp_fr.tr (sp_fr.mono (by first | decide | simp) (by first | decide | simp) (frX11_keepAll hM7)) ?_
      refine frX11_hot_l50 (fun b11 M10 h => ?_) F _ _ _ _ h
      refine frX11_hot_l72 (fun b16 b17 M15 h => ?_) F _ _ _ _ h
      obtain ⟨M18, hM18, h⟩ := Option.bind_eq_some_iff.mp h
      refine sp_fr.tr (sp_fr.mono (by first | decide | simp) (by first | decide | simp) (frX11_putBack hM18)) ?_
      obtain ⟨M19, hM19, h⟩ := sp_do_e h
      refine sp_fr.tr (sp_fr_I (Or.inl (by first | decide | simp)) hM19) ?_
      cases h
      exact sp_fr.refl _ _ _
set_option maxRecDepth 100000 in
theorem frX11_readSum_j22 {F : Nat} {p : sp_Mem} (a1 : Int32) (M : sp_Mem) (h : fX11_readSum_j22 F a1 M = some p) : sp_fr [130, 115, 114, 116, 117] ([(103, 29), (103, 30), (103, 23), (103, 14), (103, 15), (103, 17), (103, 16), (103, 19), (103, 18), (103, 26)] : List (Nat × Nat)) M p := by
  unfold fX11_readSum_j22 at h
  obtain ⟨j4, hj4, h⟩ := Option.bind_eq_some_iff.mp h
  obtain ⟨M5, hM5, h⟩ := sp_do_e h
  refine sp_fr.tr (sp_fr_I (Or.inl (by first | decide | simp)) hM5) ?_
  cases h
  exact sp_fr.refl _ _ _
set_option maxRecDepth 100000 in
theorem frX11_readSum {F : Nat} {p : sp_Mem} {M : sp_Mem} {a1 : Int32} (h : fX11_readSum F M a1 = some p) : sp_fr [130, 115, 114, 116, 117] ([(103, 29), (103, 30), (103, 23), (103, 14), (103, 15), (103, 17), (103, 16), (103, 19), (103, 18), (103, 26)] : List (Nat × Nat)) M p := by
  unfold fX11_readSum at h
  obtain ⟨j1, hj1, h⟩ := Option.bind_eq_some_iff.mp h
  obtain ⟨M2, hM2, h⟩ := sp_do_e h
  refine sp_fr.tr (sp_fr_I (Or.inl (by first | decide | simp)) hM2) ?_
  by_cases hc3 : (sp_I M2 103 19) = 0
  · have h := (if_pos hc3).symm.trans h
    obtain ⟨M6, hM6, h⟩ := Option.bind_eq_some_iff.mp h
    refine sp_fr.tr (sp_fr.mono (by first | decide | simp) (by first | decide | simp) (frX11_readExpression hM6)) ?_
    exact frX11_readSum_j22 _ _ h
  · have h := (if_neg hc3).symm.trans h
    exact frX11_readSum_j22 _ _ h
set_option maxRecDepth 100000 in
theorem frX11_readOrder_l4 {F : Nat} {kx : Int32 → sp_Mem → Option sp_Mem} {p : sp_Mem} (hx : ∀ (a1 : Int32) (M : sp_Mem), kx a1 M = some p → sp_fr [130, 115, 114, 116, 117] ([(103, 14), (103, 15), (103, 17), (103, 16), (103, 19), (103, 18), (103, 21), (103, 29), (103, 30), (103, 23), (103, 26)] : List (Nat × Nat)) M p) : ∀ (n : Nat) (a1 : Int32) (a2 : Int32) (M : sp_Mem), fX11_readOrder_l4 F kx n a1 a2 M = some p → sp_fr [130, 115, 114, 116, 117] ([(103, 14), (103, 15), (103, 17), (103, 16), (103, 19), (103, 18), (103, 21), (103, 29), (103, 30), (103, 23), (103, 26)] : List (Nat × Nat)) M p := by
  intro n
  induction n with
  | zero =>
    intro a1 a2 M h
    rw [fX11_readOrder_l4] at h
    cases h
  | succ n ih =>
    intro a1 a2 M h
    rw [fX11_readOrder_l4] at h
    by_cases hc1 : 4 ≤ a2
    · have h := (if_pos hc1).symm.trans h
      exact hx _ _ h
    · have h := (if_neg hc1).symm.trans h
      obtain ⟨j2, hj2, h⟩ := Option.bind_eq_some_iff.mp h
      obtain ⟨u4, hu4, h⟩ := sp_do_e h
      exact ih _ _ _ h
set_option maxRecDepth 100000 in
theorem frX11_readOrder_l85 {F : Nat} {kx : Int32 → Int32 → sp_Mem → Option sp_Mem} {p : sp_Mem} (hx : ∀ (a1 : Int32) (a2 : Int32) (M : sp_Mem), kx a1 a2 M = some p → sp_fr [130, 115, 114, 116, 117] ([(103, 14), (103, 15), (103, 17), (103, 16), (103, 19), (103, 18), (103, 21), (103, 29), (103, 30), (103, 23), (103, 26)] : List (Nat × Nat)) M p) : ∀ (n : Nat) (a1 : Int32) (a2 : Int32) (a3 : Int32) (M : sp_Mem), fX11_readOrder_l85 F kx n a1 a2 a3 M = some p → sp_fr [130, 115, 114, 116, 117] ([(103, 14), (103, 15), (103, 17), (103, 16), (103, 19), (103, 18), (103, 21), (103, 29), (103, 30), (103, 23), (103, 26)] : List (Nat × Nat)) M p := by
  intro n
  induction n with
  | zero =>
    intro a1 a2 a3 M h
    rw [fX11_readOrder_l85] at h
    cases h
  | succ n ih =>
    intro a1 a2 a3 M h
    rw [fX11_readOrder_l85] at h
    by_cases hc12 : 8 ≤ a3
    · have h := (if_pos hc12).symm.trans h
      exact hx _ _ _ h
    · have h := (if_neg hc12).symm.trans h
      obtain ⟨j13, hj13, h⟩ := Option.bind_eq_some_iff.mp h
      obtain ⟨M14, hM14, h⟩ := sp_do_e h
      refine sp_fr.tr (sp_fr_I (Or.inl (by first | decide | simp)) hM14) ?_
      exact ih _ _ _ _ h
set_option maxRecDepth 100000 in
theorem frX11_readOrder_j251 {F : Nat} {p : sp_Mem} (a2 : Int32) (M : sp_Mem) (h : fX11_readOrder_j251 F a2 M = some p) : sp_fr [130, 115, 114, 116, 117] ([(103, 14), (103, 15), (103, 17), (103, 16), (103, 19), (103, 18), (103, 21), (103, 29), (103, 30), (103, 23), (103, 26)] : List (Nat × Nat)) M p := by
  unfold fX11_readOrder_j251 at h
  obtain ⟨j28, hj28, h⟩ := Option.bind_eq_some_iff.mp h
  obtain ⟨M29, hM29, h⟩ := sp_do_e h
  refine sp_fr.tr (sp_fr_I (Or.inl (by first | decide | simp)) hM29) ?_
  cases h
  exact sp_fr.refl _ _ _
set_option maxRecDepth 100000 in
theorem frX11_readOrder_j213 {F : Nat} {p : sp_Mem} (a2 : Int32) (M : sp_Mem) (h : fX11_readOrder_j213 F a2 M = some p) : sp_fr [130, 115, 114, 116, 117] ([(103, 14), (103, 15), (103, 17), (103, 16), (103, 19), (103, 18), (103, 21), (103, 29), (103, 30), (103, 23), (103, 26)] : List (Nat × Nat)) M p := by
  unfold fX11_readOrder_j213 at h
  obtain ⟨j25, hj25, h⟩ := Option.bind_eq_some_iff.mp h
  obtain ⟨M26, hM26, h⟩ := sp_do_e h
  refine sp_fr.tr (sp_fr_I (Or.inl (by first | decide | simp)) hM26) ?_
  by_cases hc27 : (sp_I M26 103 19) = 0
  · have h := (if_pos hc27).symm.trans h
    by_cases hc30 : (fX11_isWord M26 294) = 0
    · have h := (if_pos hc30).symm.trans h
      exact frX11_readOrder_j251 _ _ h
    · have h := (if_neg hc30).symm.trans h
      obtain ⟨M31, hM31, h⟩ := Option.bind_eq_some_iff.mp h
      refine sp_fr.tr (sp_fr.mono (by first | decide | simp) (by first | decide | simp) (frX11_next hM31)) ?_
      obtain ⟨M32, hM32, h⟩ := Option.bind_eq_some_iff.mp h
      refine sp_fr.tr (sp_fr.mono (by first | decide | simp) (by first | decide | simp) (frX11_readExpression hM32)) ?_
      exact frX11_readOrder_j251 _ _ h
  · have h := (if_neg hc27).symm.trans h
    exact frX11_readOrder_j251 _ _ h
set_option maxRecDepth 100000 in
theorem frX11_readOrder_j165 {F : Nat} {p : sp_Mem} (a2 : Int32) (M : sp_Mem) (h : fX11_readOrder_j165 F a2 M = some p) : sp_fr [130, 115, 114, 116, 117] ([(103, 14), (103, 15), (103, 17), (103, 16), (103, 19), (103, 18), (103, 21), (103, 29), (103, 30), (103, 23), (103, 26)] : List (Nat × Nat)) M p := by
  unfold fX11_readOrder_j165 at h
  obtain ⟨j22, hj22, h⟩ := Option.bind_eq_some_iff.mp h
  obtain ⟨M23, hM23, h⟩ := sp_do_e h
  refine sp_fr.tr (sp_fr_I (Or.inl (by first | decide | simp)) hM23) ?_
  by_cases hc24 : (sp_I M23 103 19) = 0
  · have h := (if_pos hc24).symm.trans h
    by_cases hc33 : (fX11_isWord M23 21279923) = 0
    · have h := (if_pos hc33).symm.trans h
      exact frX11_readOrder_j213 _ _ h
    · have h := (if_neg hc33).symm.trans h
      obtain ⟨M34, hM34, h⟩ := Option.bind_eq_some_iff.mp h
      refine sp_fr.tr (sp_fr.mono (by first | decide | simp) (by first | decide | simp) (frX11_next hM34)) ?_
      obtain ⟨x35, hx35, h⟩ := Option.bind_eq_some_iff.mp h
      refine sp_fr.tr (sp_fr.mono (by first | decide | simp) (by first | decide | simp) (frX11_number hx35)) ?_
      obtain ⟨j36, hj36, h⟩ := Option.bind_eq_some_iff.mp h
      obtain ⟨M37, hM37, h⟩ := sp_do_e h
      refine sp_fr.tr (sp_fr_I (Or.inl (by first | decide | simp)) hM37) ?_
      exact frX11_readOrder_j213 _ _ h
  · have h := (if_neg hc24).symm.trans h
    exact frX11_readOrder_j213 _ _ h
set_option maxRecDepth 100000 in
theorem frX11_readOrder_j158 {F : Nat} {p : sp_Mem} (a2 : Int32) (M : sp_Mem) (h : fX11_readOrder_j158 F a2 M = some p) : sp_fr [130, 115, 114, 116, 117] ([(103, 14), (103, 15), (103, 17), (103, 16), (103, 19), (103, 18), (103, 21), (103, 29), (103, 30), (103, 23), (103, 26)] : List (Nat × Nat)) M p := by
  unfold fX11_readOrder_j158 at h
  obtain ⟨M39, hM39, h⟩ := Option.bind_eq_some_iff.mp h
  refine sp_fr.tr (sp_fr.mono (by first | decide | simp) (by first | decide | simp) (frX11_readSum hM39)) ?_
  exact frX11_readOrder_j165 _ _ h
set_option maxRecDepth 100000 in
theorem frX11_readOrder_j152 {F : Nat} {p : sp_Mem} (a2 : Int32) (s0 : Int64) (M : sp_Mem) (h : fX11_readOrder_j152 F a2 s0 M = some p) : sp_fr [130, 115, 114, 116, 117] ([(103, 14), (103, 15), (103, 17), (103, 16), (103, 19), (103, 18), (103, 21), (103, 29), (103, 30), (103, 23), (103, 26)] : List (Nat × Nat)) M p := by
  unfold fX11_readOrder_j152 at h
  obtain ⟨M41, hM41, h⟩ := Option.bind_eq_some_iff.mp h
  refine sp_fr.tr (sp_fr.mono (by first | decide | simp) (by first | decide | simp) (frX11_must hM41)) ?_
  exact frX11_readOrder_j158 _ _ h
set_option maxRecDepth 100000 in
theorem frX11_readOrder_j125 {F : Nat} {p : sp_Mem} (a1 : Int32) (a2 : Int32) (M : sp_Mem) (h : fX11_readOrder_j125 F a1 a2 M = some p) : sp_fr [130, 115, 114, 116, 117] ([(103, 14), (103, 15), (103, 17), (103, 16), (103, 19), (103, 18), (103, 21), (103, 29), (103, 30), (103, 23), (103, 26)] : List (Nat × Nat)) M p := by
  unfold fX11_readOrder_j125 at h
  by_cases hc21 : 2 ≤ a1
  · have h := (if_pos hc21).symm.trans h
    exact frX11_readOrder_j165 _ _ h
  · have h := (if_neg hc21).symm.trans h
    by_cases hc38 : (sp_I M 103 19) = 0
    · have h := (if_pos hc38).symm.trans h
      by_cases hc40 : a1 = 0
      · have h := (if_pos hc40).symm.trans h
        exact frX11_readOrder_j152 _ _ _ h
      · have h := (if_neg hc40).symm.trans h
        exact frX11_readOrder_j152 _ _ _ h
    · have h := (if_neg hc38).symm.trans h
      exact frX11_readOrder_j158 _ _ h
set_option maxRecDepth 100000 in
theorem frX11_readOrder_j54 {F : Nat} {p : sp_Mem} (a1 : Int32) (s0 : Int32) (M : sp_Mem) (h : fX11_readOrder_j54 F a1 s0 M = some p) : sp_fr [130, 115, 114, 116, 117] ([(103, 14), (103, 15), (103, 17), (103, 16), (103, 19), (103, 18), (103, 21), (103, 29), (103, 30), (103, 23), (103, 26)] : List (Nat × Nat)) M p := by
  unfold fX11_readOrder_j54 at h
  obtain ⟨M8, hM8, h⟩ := Option.bind_eq_some_iff.mp h
  refine sp_fr.tr (sp_fr.mono (by first | decide | simp) (by first | decide | simp) (frX11_must hM8)) ?_
  by_cases hc9 : (sp_I M8 103 19) = 0
  · have h := (if_pos hc9).symm.trans h
    obtain ⟨u10, hu10, h⟩ := sp_do_e h
    obtain ⟨M11, hM11, h⟩ := sp_do_e h
    refine sp_fr.tr (sp_fr_I (Or.inr (by first | decide | simp)) hM11) ?_
    refine frX11_readOrder_l85 (fun b16 b17 M15 h => ?_) F _ _ _ _ h
    obtain ⟨j18, hj18, h⟩ := Option.bind_eq_some_iff.mp h
    obtain ⟨M19, hM19, h⟩ := sp_do_e h
    refine sp_fr.tr (sp_fr_I (Or.inl (by first | decide | simp)) hM19) ?_
    by_cases hc20 : b16 = 3
    · have h := (if_pos hc20).symm.trans h
      exact frX11_readOrder_j125 _ _ _ h
    · have h := (if_neg hc20).symm.trans h
      obtain ⟨M42, hM42, h⟩ := Option.bind_eq_some_iff.mp h
      refine sp_fr.tr (sp_fr.mono (by first | decide | simp) (by first | decide | simp) (frX11_readSum hM42)) ?_
      exact frX11_readOrder_j125 _ _ _ h
  · have h := (if_neg hc9).symm.trans h
    cases h
    exact sp_fr.refl _ _ _
set_option maxRecDepth 100000 in
theorem frX11_readOrder_j53 {F : Nat} {p : sp_Mem} (a1 : Int32) (M : sp_Mem) (h : fX11_readOrder_j53 F a1 M = some p) : sp_fr [130, 115, 114, 116, 117] ([(103, 14), (103, 15), (103, 17), (103, 16), (103, 19), (103, 18), (103, 21), (103, 29), (103, 30), (103, 23), (103, 26)] : List (Nat × Nat)) M p := by
  unfold fX11_readOrder_j53 at h
  exact frX11_readOrder_j54 _ _ _ h
set_option maxRecDepth 100000 in
theorem frX11_readOrder {F : Nat} {p : sp_Mem} {M : sp_Mem} (h : fX11_readOrder F M = some p) : sp_fr [130, 115, 114, 116, 117] ([(103, 14), (103, 15), (103, 17), (103, 16), (103, 19), (103, 18), (103, 21), (103, 29), (103, 30), (103, 23), (103, 26)] : List (Nat × Nat)) M p := by
  unfold fX11_readOrder at h
  refine frX11_readOrder_l4 (fun b6 M5 h => ?_) F _ _ _ h
  by_cases hc7 : b6 = (-1)
  · have h := (if_pos hc7).symm.trans h
    exact frX11_readOrder_j53 _ _ h
  · have h := (if_neg hc7).symm.trans h
    exact frX11_readOrder_j54 _ _ _ h
set_option maxRecDepth 100000 in
theorem frX11_sumOf {F : Nat} {p : (Int32 × sp_Mem)} {M : sp_Mem} {a1 : Int32} (h : fX11_sumOf F M a1 = some p) : sp_fr [123] ([(103, 20), (103, 38), (103, 39), (103, 51)] : List (Nat × Nat)) M p.2 := by
  unfold fX11_sumOf at h
  by_cases hc1 : (sp_I M 103 51) = 0
  · have h := (if_pos hc1).symm.trans h
    obtain ⟨j2, hj2, h⟩ := Option.bind_eq_some_iff.mp h
    obtain ⟨j3, hj3, h⟩ := Option.bind_eq_some_iff.mp h
    by_cases hc4 : (sp_I M 130 j2) = (sp_I M 130 j3)
    · have h := (if_pos hc4).symm.trans h
      cases h
      exact sp_fr.refl _ _ _
    · have h := (if_neg hc4).symm.trans h
      obtain ⟨M5, hM5, h⟩ := sp_do_e h
      refine sp_fr.tr (sp_fr_I (Or.inr (by first | decide | simp)) hM5) ?_
      obtain ⟨j6, hj6, h⟩ := Option.bind_eq_some_iff.mp h
      obtain ⟨j7, hj7, h⟩ := Option.bind_eq_some_iff.mp h
      obtain ⟨M8, hM8, h⟩ := Option.bind_eq_some_iff.mp h
      refine sp_fr.tr (sp_fr.mono (by first | decide | simp) (by first | decide | simp) (frX11_reckonAll hM8)) ?_
      obtain ⟨M9, hM9, h⟩ := sp_do_e h
      refine sp_fr.tr (sp_fr_I (Or.inr (by first | decide | simp)) hM9) ?_
      obtain ⟨M10, hM10, h⟩ := sp_do_e h
      refine sp_fr.tr (sp_fr_I (Or.inr (by first | decide | simp)) hM10) ?_
      obtain ⟨_, hz11, h⟩ := Option.bind_eq_some_iff.mp h
      cases h
      exact sp_fr.refl _ _ _
  · have h := (if_neg hc1).symm.trans h
    cases h
    exact sp_fr.refl _ _ _
set_option maxRecDepth 100000 in
theorem frX11_act {F : Nat} {p : (Int32 × sp_Mem)} {M : sp_Mem} {a1 : Int32} {a2 : Int32} {a3 : Int32} (h : fX11_act F M a1 a2 a3 = some p) : sp_fr [121, 123, 108, 109, 105, 124, 125] ([(103, 34), (103, 38), (103, 39), (103, 40), (103, 8)] : List (Nat × Nat)) M p.2 := by
  unfold fX11_act at h
  by_cases hc1 : a1 = 0
  · have h := (if_pos hc1).symm.trans h
    obtain ⟨x2, hx2, h⟩ := Option.bind_eq_some_iff.mp h
    refine sp_fr.tr (sp_fr.mono (by first | decide | simp) (by first | decide | simp) (frX11_callNow hx2)) ?_
    cases h
    exact sp_fr.refl _ _ _
  have h := (if_neg hc1).symm.trans h
  by_cases hc3 : a1 = 1
  · have h := (if_pos hc3).symm.trans h
    obtain ⟨x4, hx4, h⟩ := Option.bind_eq_some_iff.mp h
    refine sp_fr.tr (sp_fr.mono (by first | decide | simp) (by first | decide | simp) (frX11_walkNow hx4)) ?_
    cases h
    exact sp_fr.refl _ _ _
  have h := (if_neg hc3).symm.trans h
  by_cases hc5 : a1 = 2
  · have h := (if_pos hc5).symm.trans h
    obtain ⟨x6, hx6, h⟩ := Option.bind_eq_some_iff.mp h
    refine sp_fr.tr (sp_fr.mono (by first | decide | simp) (by first | decide | simp) (frX11_wetNow hx6)) ?_
    cases h
    exact sp_fr.refl _ _ _
  have h := (if_neg hc5).symm.trans h
  obtain ⟨x7, hx7, h⟩ := Option.bind_eq_some_iff.mp h
  refine sp_fr.tr (sp_fr.mono (by first | decide | simp) (by first | decide | simp) (frX11_passNow hx7)) ?_
  cases h
  exact sp_fr.refl _ _ _
set_option maxRecDepth 100000 in
theorem frX11_run_j162 {F : Nat} {p : (Int32 × sp_Mem)} (s0 : Int32) (M : sp_Mem) (h : fX11_run_j162 F s0 M = some p) : sp_fr [122, 123, 121, 108, 109, 105, 124, 125] ([(103, 51), (103, 20), (103, 38), (103, 39), (103, 34), (103, 40), (103, 8), (103, 49), (103, 48)] : List (Nat × Nat)) M p.2 := by
  unfold fX11_run_j162 at h
  obtain ⟨M19, hM19, h⟩ := sp_do_e h
  refine sp_fr.tr (sp_fr_I (Or.inr (by first | decide | simp)) hM19) ?_
  obtain ⟨M20, hM20, h⟩ := sp_do_e h
  refine sp_fr.tr (sp_fr_I (Or.inr (by first | decide | simp)) hM20) ?_
  cases h
  exact sp_fr.refl _ _ _
set_option maxRecDepth 100000 in
theorem frX11_run_j95 {F : Nat} {p : (Int32 × sp_Mem)} (a1 : Int32) (M : sp_Mem) (h : fX11_run_j95 F a1 M = some p) : sp_fr [122, 123, 121, 108, 109, 105, 124, 125] ([(103, 51), (103, 20), (103, 38), (103, 39), (103, 34), (103, 40), (103, 8), (103, 49), (103, 48)] : List (Nat × Nat)) M p.2 := by
  unfold fX11_run_j95 at h
  obtain ⟨x11, hx11, h⟩ := Option.bind_eq_some_iff.mp h
  refine sp_fr.tr (sp_fr.mono (by first | decide | simp) (by first | decide | simp) (frX11_sumOf hx11)) ?_
  obtain ⟨x12, hx12, h⟩ := Option.bind_eq_some_iff.mp h
  refine sp_fr.tr (sp_fr.mono (by first | decide | simp) (by first | decide | simp) (frX11_sumOf hx12)) ?_
  by_cases hc13 : (sp_I x12.2 103 51) = 0
  · have h := (if_pos hc13).symm.trans h
    obtain ⟨j14, hj14, h⟩ := Option.bind_eq_some_iff.mp h
    obtain ⟨x15, hx15, h⟩ := Option.bind_eq_some_iff.mp h
    refine sp_fr.tr (sp_fr.mono (by first | decide | simp) (by first | decide | simp) (frX11_act hx15)) ?_
    by_cases hc16 : 0 ≤ x15.1
    · have h := (if_pos hc16).symm.trans h
      obtain ⟨j17, hj17, h⟩ := Option.bind_eq_some_iff.mp h
      by_cases hc18 : (sp_I x15.2 130 j17) = 0
      · have h := (if_pos hc18).symm.trans h
        exact frX11_run_j162 _ _ h
      · have h := (if_neg hc18).symm.trans h
        exact frX11_run_j162 _ _ h
    · have h := (if_neg hc16).symm.trans h
      cases h
      exact sp_fr.refl _ _ _
  · have h := (if_neg hc13).symm.trans h
    cases h
    exact sp_fr.refl _ _ _
set_option maxRecDepth 100000 in
theorem frX11_run {F : Nat} {p : (Int32 × sp_Mem)} {M : sp_Mem} {a1 : Int32} (h : fX11_run F M a1 = some p) : sp_fr [122, 123, 121, 108, 109, 105, 124, 125] ([(103, 51), (103, 20), (103, 38), (103, 39), (103, 34), (103, 40), (103, 8), (103, 49), (103, 48)] : List (Nat × Nat)) M p.2 := by
  unfold fX11_run at h
  obtain ⟨M1, hM1, h⟩ := sp_do_e h
  refine sp_fr.tr (sp_fr_L (Or.inl (by first | decide | simp)) hM1) ?_
  obtain ⟨M2, hM2, h⟩ := sp_do_e h
  refine sp_fr.tr (sp_fr_L (Or.inl (by first | decide | simp)) hM2) ?_
  obtain ⟨M3, hM3, h⟩ := sp_do_e h
  refine sp_fr.tr (sp_fr_L (Or.inl (by first | decide | simp)) hM3) ?_
  obtain ⟨v4, hv4, h⟩ := Option.bind_eq_some_iff.mp h
  obtain ⟨v5, hv5, h⟩ := Option.bind_eq_some_iff.mp h
  obtain ⟨M6, hM6, h⟩ := sp_do_e h
  refine sp_fr.tr (sp_fr_L (Or.inl (by first | decide | simp)) hM6) ?_
  obtain ⟨M7, hM7, h⟩ := sp_do_e h
  refine sp_fr.tr (sp_fr_I (Or.inr (by first | decide | simp)) hM7) ?_
  obtain ⟨j8, hj8, h⟩ := Option.bind_eq_some_iff.mp h
  obtain ⟨j9, hj9, h⟩ := Option.bind_eq_some_iff.mp h
  by_cases hc10 : (sp_I M7 130 j9) ≤ (sp_I M7 130 j8)
  · have h := (if_pos hc10).symm.trans h
    exact frX11_run_j95 _ _ h
  · have h := (if_neg hc10).symm.trans h
    obtain ⟨x21, hx21, h⟩ := Option.bind_eq_some_iff.mp h
    refine sp_fr.tr (sp_fr.mono (by first | decide | simp) (by first | decide | simp) (frX11_sumOf hx21)) ?_
    by_cases hc22 : (sp_I x21.2 103 51) = 0
    · have h := (if_pos hc22).symm.trans h
      by_cases hc23 : x21.1 = 0
      · have h := (if_pos hc23).symm.trans h
        cases h
        exact sp_fr.refl _ _ _
      · have h := (if_neg hc23).symm.trans h
        exact frX11_run_j95 _ _ h
    · have h := (if_neg hc22).symm.trans h
      cases h
      exact sp_fr.refl _ _ _
set_option maxRecDepth 100000 in
theorem frX11_giveBack_l8 {F : Nat} {kx : Int32 → sp_Mem → Option sp_Mem} {p : sp_Mem} (hx : ∀ (a1 : Int32) (M : sp_Mem), kx a1 M = some p → sp_fr [105, 108, 109] ([(103, 8)] : List (Nat × Nat)) M p) : ∀ (n : Nat) (a1 : Int32) (a2 : Int32) (M : sp_Mem), fX11_giveBack_l8 F kx n a1 a2 M = some p → sp_fr [105, 108, 109] ([(103, 8)] : List (Nat × Nat)) M p := by
  intro n
  induction n with
  | zero =>
    intro a1 a2 M h
    rw [fX11_giveBack_l8] at h
    cases h
  | succ n ih =>
    intro a1 a2 M h
    rw [fX11_giveBack_l8] at h
    by_cases hc2 : 736 ≤ a2
    · have h := (if_pos hc2).symm.trans h
      exact hx _ _ h
    · have h := (if_neg hc2).symm.trans h
      obtain ⟨j3, hj3, h⟩ := Option.bind_eq_some_iff.mp h
      obtain ⟨j4, hj4, h⟩ := Option.bind_eq_some_iff.mp h
      obtain ⟨M5, hM5, h⟩ := sp_do_e h
      refine sp_fr.tr (sp_fr_I (Or.inl (by first | decide | simp)) hM5) ?_
      exact ih _ _ _ h
set_option maxRecDepth 100000 in
theorem frX11_giveBack_l35 {F : Nat} {kx : Int32 → sp_Mem → Option sp_Mem} {p : sp_Mem} (hx : ∀ (a1 : Int32) (M : sp_Mem), kx a1 M = some p → sp_fr [105, 108, 109] ([(103, 8)] : List (Nat × Nat)) M p) : ∀ (n : Nat) (a1 : Int32) (a2 : Int32) (M : sp_Mem), fX11_giveBack_l35 F kx n a1 a2 M = some p → sp_fr [105, 108, 109] ([(103, 8)] : List (Nat × Nat)) M p := by
  intro n
  induction n with
  | zero =>
    intro a1 a2 M h
    rw [fX11_giveBack_l35] at h
    cases h
  | succ n ih =>
    intro a1 a2 M h
    rw [fX11_giveBack_l35] at h
    by_cases hc8 : 16 ≤ a2
    · have h := (if_pos hc8).symm.trans h
      exact hx _ _ h
    · have h := (if_neg hc8).symm.trans h
      obtain ⟨j9, hj9, h⟩ := Option.bind_eq_some_iff.mp h
      obtain ⟨j10, hj10, h⟩ := Option.bind_eq_some_iff.mp h
      obtain ⟨M11, hM11, h⟩ := sp_do_e h
      refine sp_fr.tr (sp_fr_I (Or.inl (by first | decide | simp)) hM11) ?_
      exact ih _ _ _ h
set_option maxRecDepth 100000 in
theorem frX11_giveBack {F : Nat} {p : sp_Mem} {M : sp_Mem} {a1 : Int32} (h : fX11_giveBack F M a1 = some p) : sp_fr [105, 108, 109] ([(103, 8)] : List (Nat × Nat)) M p := by
  unfold fX11_giveBack at h
  obtain ⟨M1, hM1, h⟩ := Option.bind_eq_some_iff.mp h
  refine sp_fr.tr (sp_fr.mono (by first | decide | simp) (by first | decide | simp) (frX11_putBack hM1)) ?_
  refine frX11_giveBack_l8 (fun b7 M6 h => ?_) F _ _ _ h
  refine frX11_giveBack_l35 (fun b13 M12 h => ?_) F _ _ _ h
  obtain ⟨M14, hM14, h⟩ := sp_do_e h
  refine sp_fr.tr (sp_fr_I (Or.inr (by first | decide | simp)) hM14) ?_
  cases h
  exact sp_fr.refl _ _ _
set_option maxRecDepth 100000 in
theorem frX11_orders_l19 {F : Nat} {kx : sp_Mem → Option (Int32 × sp_Mem)} {p : (Int32 × sp_Mem)} (hx : ∀  (M : sp_Mem), kx M = some p → sp_fr [130, 115, 114, 116, 117, 108, 110, 111, 122, 123, 121, 109, 105, 124, 125, 104] ([(103, 0), (103, 50), (103, 20), (103, 15), (103, 19), (103, 18), (103, 14), (103, 17), (103, 16), (103, 21), (103, 23), (103, 26), (103, 29), (103, 30), (103, 13), (103, 48), (103, 49), (103, 51), (103, 38), (103, 39), (103, 34), (103, 40), (103, 8), (103, 1)] : List (Nat × Nat)) M p.2) : ∀ (n : Nat)  (M : sp_Mem), fX11_orders_l19 F kx n M = some p → sp_fr [130, 115, 114, 116, 117, 108, 110, 111, 122, 123, 121, 109, 105, 124, 125, 104] ([(103, 0), (103, 50), (103, 20), (103, 15), (103, 19), (103, 18), (103, 14), (103, 17), (103, 16), (103, 21), (103, 23), (103, 26), (103, 29), (103, 30), (103, 13), (103, 48), (103, 49), (103, 51), (103, 38), (103, 39), (103, 34), (103, 40), (103, 8), (103, 1)] : List (Nat × Nat)) M p.2 := by
  intro n
  induction n with
  | zero =>
    intro M h
    rw [fX11_orders_l19] at h
    cases h
  | succ n ih =>
    intro M h
    rw [fX11_orders_l19] at h
    by_cases hc5 : (sp_I M 103 19) = 0
    · have h := (if_pos hc5).symm.trans h
      by_cases hc6 : (fX11_isSign M 59) = 0
      · have h := (if_pos hc6).symm.trans h
        exact hx _ h
      · have h := (if_neg hc6).symm.trans h
        obtain ⟨M7, hM7, h⟩ := Option.bind_eq_some_iff.mp h
        refine sp_fr.tr (sp_fr.mono (by first | decide | simp) (by first | decide | simp) (frX11_next hM7)) ?_
        obtain ⟨M8, hM8, h⟩ := Option.bind_eq_some_iff.mp h
        refine sp_fr.tr (sp_fr.mono (by first | decide | simp) (by first | decide | simp) (frX11_readOrder hM8)) ?_
        exact ih _ h
    · have h := (if_neg hc5).symm.trans h
      exact hx _ h
set_option maxRecDepth 100000 in
theorem frX11_orders_l77 {F : Nat} {kx : Int32 → sp_Mem → Option (Int32 × sp_Mem)} {p : (Int32 × sp_Mem)} (hx : ∀ (a1 : Int32) (M : sp_Mem), kx a1 M = some p → sp_fr [130, 115, 114, 116, 117, 108, 110, 111, 122, 123, 121, 109, 105, 124, 125, 104] ([(103, 0), (103, 50), (103, 20), (103, 15), (103, 19), (103, 18), (103, 14), (103, 17), (103, 16), (103, 21), (103, 23), (103, 26), (103, 29), (103, 30), (103, 13), (103, 48), (103, 49), (103, 51), (103, 38), (103, 39), (103, 34), (103, 40), (103, 8), (103, 1)] : List (Nat × Nat)) M p.2) : ∀ (n : Nat) (a1 : Int32) (a2 : Int32) (M : sp_Mem), fX11_orders_l77 F kx n a1 a2 M = some p → sp_fr [130, 115, 114, 116, 117, 108, 110, 111, 122, 123, 121, 109, 105, 124, 125, 104] ([(103, 0), (103, 50), (103, 20), (103, 15), (103, 19), (103, 18), (103, 14), (103, 17), (103, 16), (103, 21), (103, 23), (103, 26), (103, 29), (103, 30), (103, 13), (103, 48), (103, 49), (103, 51), (103, 38), (103, 39), (103, 34), (103, 40), (103, 8), (103, 1)] : List (Nat × Nat)) M p.2 := by
  intro n
  induction n with
  | zero =>
    intro a1 a2 M h
    rw [fX11_orders_l77] at h
    cases h
  | succ n ih =>
    intro a1 a2 M h
    rw [fX11_orders_l77] at h
    by_cases hc14 : 736 ≤ a2
    · have h := (if_pos hc14).symm.trans h
      exact hx _ _ h
    · have h := (if_neg hc14).symm.trans h
      obtain ⟨j15, hj15, h⟩ := Option.bind_eq_some_iff.mp h
      obtain ⟨j16, hj16, h⟩ := Option.bind_eq_some_iff.mp h
      obtain ⟨M17, hM17, h⟩ := sp_do_e h
      refine sp_fr.tr (sp_fr_I (Or.inl (by first | decide | simp)) hM17) ?_
      exact ih _ _ _ h
set_option maxRecDepth 100000 in
theorem frX11_orders_l104 {F : Nat} {kx : Int32 → sp_Mem → Option (Int32 × sp_Mem)} {p : (Int32 × sp_Mem)} (hx : ∀ (a1 : Int32) (M : sp_Mem), kx a1 M = some p → sp_fr [130, 115, 114, 116, 117, 108, 110, 111, 122, 123, 121, 109, 105, 124, 125, 104] ([(103, 0), (103, 50), (103, 20), (103, 15), (103, 19), (103, 18), (103, 14), (103, 17), (103, 16), (103, 21), (103, 23), (103, 26), (103, 29), (103, 30), (103, 13), (103, 48), (103, 49), (103, 51), (103, 38), (103, 39), (103, 34), (103, 40), (103, 8), (103, 1)] : List (Nat × Nat)) M p.2) : ∀ (n : Nat) (a1 : Int32) (a2 : Int32) (M : sp_Mem), fX11_orders_l104 F kx n a1 a2 M = some p → sp_fr [130, 115, 114, 116, 117, 108, 110, 111, 122, 123, 121, 109, 105, 124, 125, 104] ([(103, 0), (103, 50), (103, 20), (103, 15), (103, 19), (103, 18), (103, 14), (103, 17), (103, 16), (103, 21), (103, 23), (103, 26), (103, 29), (103, 30), (103, 13), (103, 48), (103, 49), (103, 51), (103, 38), (103, 39), (103, 34), (103, 40), (103, 8), (103, 1)] : List (Nat × Nat)) M p.2 := by
  intro n
  induction n with
  | zero =>
    intro a1 a2 M h
    rw [fX11_orders_l104] at h
    cases h
  | succ n ih =>
    intro a1 a2 M h
    rw [fX11_orders_l104] at h
    by_cases hc20 : 16 ≤ a2
    · have h := (if_pos hc20).symm.trans h
      exact hx _ _ h
    · have h := (if_neg hc20).symm.trans h
      obtain ⟨j21, hj21, h⟩ := Option.bind_eq_some_iff.mp h
      obtain ⟨j22, hj22, h⟩ := Option.bind_eq_some_iff.mp h
      obtain ⟨M23, hM23, h⟩ := sp_do_e h
      refine sp_fr.tr (sp_fr_I (Or.inl (by first | decide | simp)) hM23) ?_
      exact ih _ _ _ h
set_option maxRecDepth 100000 in
theorem frX11_orders_l150 {F : Nat} {kx : Int32 → Int32 → sp_Mem → Option (Int32 × sp_Mem)} {p : (Int32 × sp_Mem)} (hx : ∀ (a1 : Int32) (a2 : Int32) (M : sp_Mem), kx a1 a2 M = some p → sp_fr [130, 115, 114, 116, 117, 108, 110, 111, 122, 123, 121, 109, 105, 124, 125, 104] ([(103, 0), (103, 50), (103, 20), (103, 15), (103, 19), (103, 18), (103, 14), (103, 17), (103, 16), (103, 21), (103, 23), (103, 26), (103, 29), (103, 30), (103, 13), (103, 48), (103, 49), (103, 51), (103, 38), (103, 39), (103, 34), (103, 40), (103, 8), (103, 1)] : List (Nat × Nat)) M p.2) : ∀ (n : Nat) (a1 : Int32) (a2 : Int32) (a3 : Int32) (M : sp_Mem), fX11_orders_l150 F kx n a1 a2 a3 M = some p → sp_fr [130, 115, 114, 116, 117, 108, 110, 111, 122, 123, 121, 109, 105, 124, 125, 104] ([(103, 0), (103, 50), (103, 20), (103, 15), (103, 19), (103, 18), (103, 14), (103, 17), (103, 16), (103, 21), (103, 23), (103, 26), (103, 29), (103, 30), (103, 13), (103, 48), (103, 49), (103, 51), (103, 38), (103, 39), (103, 34), (103, 40), (103, 8), (103, 1)] : List (Nat × Nat)) M p.2 := by
  intro n
  induction n with
  | zero =>
    intro a1 a2 a3 M h
    rw [fX11_orders_l150] at h
    cases h
  | succ n ih =>
    intro a1 a2 a3 M h
    rw [fX11_orders_l150] at h
    obtain ⟨j29, hj29, h⟩ := Option.bind_eq_some_iff.mp h
    by_cases hc30 : (sp_I M 130 j29) ≤ a3
    · have h := (if_pos hc30).symm.trans h
      exact hx _ _ _ h
    · have h := (if_neg hc30).symm.trans h
      obtain ⟨x31, hx31, h⟩ := Option.bind_eq_some_iff.mp h
      refine sp_fr.tr (sp_fr.mono (by first | decide | simp) (by first | decide | simp) (frX11_run hx31)) ?_
      by_cases hc32 : 0 ≤ x31.1
      · have h := (if_pos hc32).symm.trans h
        exact ih _ _ _ _ h
      · have h := (if_neg hc32).symm.trans h
        obtain ⟨M33, hM33, h⟩ := Option.bind_eq_some_iff.mp h
        refine sp_fr.tr (sp_fr.mono (by first | decide | simp) (by first | decide | simp) (frX11_giveBack hM33)) ?_
        obtain ⟨M34, hM34, h⟩ := sp_do_e h
        refine sp_fr.tr (sp_fr_I (Or.inr (by first | decide | simp)) hM34) ?_
        obtain ⟨x35, hx35, h⟩ := Option.bind_eq_some_iff.mp h
        refine sp_fr.tr (sp_fr.mono (by first | decide | simp) (by first | decide | simp) (frX11_tell hx35)) ?_
        cases h
        exact sp_fr.refl _ _ _
set_option maxRecDepth 100000 in
theorem frX11_orders_l140 {F : Nat} {kx : sp_Mem → Option (Int32 × sp_Mem)} {p : (Int32 × sp_Mem)} (hx : ∀  (M : sp_Mem), kx M = some p → sp_fr [130, 115, 114, 116, 117, 108, 110, 111, 122, 123, 121, 109, 105, 124, 125, 104] ([(103, 0), (103, 50), (103, 20), (103, 15), (103, 19), (103, 18), (103, 14), (103, 17), (103, 16), (103, 21), (103, 23), (103, 26), (103, 29), (103, 30), (103, 13), (103, 48), (103, 49), (103, 51), (103, 38), (103, 39), (103, 34), (103, 40), (103, 8), (103, 1)] : List (Nat × Nat)) M p.2) : ∀ (n : Nat) (a1 : Int32) (a2 : Int32) (M : sp_Mem), fX11_orders_l140 F kx n a1 a2 M = some p → sp_fr [130, 115, 114, 116, 117, 108, 110, 111, 122, 123, 121, 109, 105, 124, 125, 104] ([(103, 0), (103, 50), (103, 20), (103, 15), (103, 19), (103, 18), (103, 14), (103, 17), (103, 16), (103, 21), (103, 23), (103, 26), (103, 29), (103, 30), (103, 13), (103, 48), (103, 49), (103, 51), (103, 38), (103, 39), (103, 34), (103, 40), (103, 8), (103, 1)] : List (Nat × Nat)) M p.2 := by
  intro n
  induction n with
  | zero =>
    intro a1 a2 M h
    rw [fX11_orders_l140] at h
    cases h
  | succ n ih =>
    intro a1 a2 M h
    rw [fX11_orders_l140] at h
    by_cases hc28 : (sp_I M 103 21) ≤ a2
    · have h := (if_pos hc28).symm.trans h
      exact hx _ h
    · have h := (if_neg hc28).symm.trans h
      refine frX11_orders_l150 (fun b37 b38 M36 h => ?_) F _ _ _ _ h
      exact ih _ _ _ h
set_option maxRecDepth 100000 in
theorem frX11_orders_j46 {F : Nat} {p : (Int32 × sp_Mem)} (M : sp_Mem) (h : fX11_orders_j46 F M = some p) : sp_fr [130, 115, 114, 116, 117, 108, 110, 111, 122, 123, 121, 109, 105, 124, 125, 104] ([(103, 0), (103, 50), (103, 20), (103, 15), (103, 19), (103, 18), (103, 14), (103, 17), (103, 16), (103, 21), (103, 23), (103, 26), (103, 29), (103, 30), (103, 13), (103, 48), (103, 49), (103, 51), (103, 38), (103, 39), (103, 34), (103, 40), (103, 8), (103, 1)] : List (Nat × Nat)) M p.2 := by
  unfold fX11_orders_j46 at h
  obtain ⟨M10, hM10, h⟩ := Option.bind_eq_some_iff.mp h
  refine sp_fr.tr (sp_fr.mono (by first | decide | simp) (by first | decide | simp) (frX11_endText hM10)) ?_
  by_cases hc11 : (sp_I M10 103 19) = 0
  · have h := (if_pos hc11).symm.trans h
    obtain ⟨M12, hM12, h⟩ := Option.bind_eq_some_iff.mp h
    refine sp_fr.tr (sp_fr.mono (by first | decide | simp) (by first | decide | simp) (frX11_keepAll hM12)) ?_
    obtain ⟨u13, hu13, h⟩ := sp_do_e h
    refine frX11_orders_l77 (fun b19 M18 h => ?_) F _ _ _ h
    refine frX11_orders_l104 (fun b25 M24 h => ?_) F _ _ _ h
    obtain ⟨M26, hM26, h⟩ := sp_do_e h
    refine sp_fr.tr (sp_fr_I (Or.inr (by first | decide | simp)) hM26) ?_
    obtain ⟨M27, hM27, h⟩ := sp_do_e h
    refine sp_fr.tr (sp_fr_I (Or.inr (by first | decide | simp)) hM27) ?_
    refine frX11_orders_l140 (fun M39 h => ?_) F _ _ _ h
    obtain ⟨x40, hx40, h⟩ := Option.bind_eq_some_iff.mp h
    refine sp_fr.tr (sp_fr.mono (by first | decide | simp) (by first | decide | simp) (frX11_tell hx40)) ?_
    cases h
    exact sp_fr.refl _ _ _
  · have h := (if_neg hc11).symm.trans h
    obtain ⟨x41, hx41, h⟩ := Option.bind_eq_some_iff.mp h
    refine sp_fr.tr (sp_fr.mono (by first | decide | simp) (by first | decide | simp) (frX11_tell hx41)) ?_
    cases h
    exact sp_fr.refl _ _ _
set_option maxRecDepth 100000 in
theorem frX11_orders {F : Nat} {p : (Int32 × sp_Mem)} {M : sp_Mem} (h : fX11_orders F M = some p) : sp_fr [130, 115, 114, 116, 117, 108, 110, 111, 122, 123, 121, 109, 105, 124, 125, 104] ([(103, 0), (103, 50), (103, 20), (103, 15), (103, 19), (103, 18), (103, 14), (103, 17), (103, 16), (103, 21), (103, 23), (103, 26), (103, 29), (103, 30), (103, 13), (103, 48), (103, 49), (103, 51), (103, 38), (103, 39), (103, 34), (103, 40), (103, 8), (103, 1)] : List (Nat × Nat)) M p.2 := by
  unfold fX11_orders at h
  obtain ⟨M1, hM1, h⟩ := sp_do_e h
  refine sp_fr.tr (sp_fr_I (Or.inr (by first | decide | simp)) hM1) ?_
  obtain ⟨M2, hM2, h⟩ := sp_do_e h
  refine sp_fr.tr (sp_fr_I (Or.inr (by first | decide | simp)) hM2) ?_
  obtain ⟨M3, hM3, h⟩ := Option.bind_eq_some_iff.mp h
  refine sp_fr.tr (sp_fr.mono (by first | decide | simp) (by first | decide | simp) (frX11_beginText hM3)) ?_
  obtain ⟨M4, hM4, h⟩ := Option.bind_eq_some_iff.mp h
  refine sp_fr.tr (sp_fr.mono (by first | decide | simp) (by first | decide | simp) (frX11_readOrder hM4)) ?_
  refine frX11_orders_l19 (fun M9 h => ?_) F _ h
  exact frX11_orders_j46 _ h
set_option maxRecDepth 100000 in
theorem frX11_stopped {p : (Int32 × sp_Mem)} {M : sp_Mem} (h : fX11_stopped M = some p) : sp_fr [] ([(103, 0)] : List (Nat × Nat)) M p.2 := by
  unfold fX11_stopped at h
  obtain ⟨M1, hM1, h⟩ := sp_do_e h
  refine sp_fr.tr (sp_fr_I (Or.inr (by first | decide | simp)) hM1) ?_
  cases h
  exact sp_fr.refl _ _ _
set_option maxRecDepth 100000 in
theorem frX11_draw {p : (Int32 × sp_Mem)} {M : sp_Mem} {a1 : Int32} (h : fX11_draw M a1 = some p) : sp_fr [] ([(103, 52)] : List (Nat × Nat)) M p.2 := by
  unfold fX11_draw at h
  obtain ⟨M1, hM1, h⟩ := sp_do_e h
  refine sp_fr.tr (sp_fr_L (Or.inr (by first | decide | simp)) hM1) ?_
  by_cases hz2 : (Int32.toInt64 a1) = 0
  · rw [if_pos hz2] at h; cases h
  have h := (if_neg hz2).symm.trans h
  cases h
  exact sp_fr.refl _ _ _
set_option maxRecDepth 100000 in
theorem frX11_nights_j153 {F : Nat} {kb : Int32 → Int32 → Int32 → sp_Mem → Option (Int32 × sp_Mem)} {kx : Int32 → sp_Mem → Option (Int32 × sp_Mem)} {p : (Int32 × sp_Mem)} (hb : ∀ (a2 : Int32) (a3 : Int32) (a4 : Int32) (M : sp_Mem), kb a2 a3 a4 M = some p → sp_fr [104, 108, 124, 121, 123, 105, 125, 131] ([(103, 0), (103, 1), (103, 52), (103, 34), (103, 38), (103, 39), (103, 40), (103, 54), (103, 55)] : List (Nat × Nat)) M p.2) (hx : ∀ (a3 : Int32) (M : sp_Mem), kx a3 M = some p → sp_fr [104, 108, 124, 121, 123, 105, 125, 131] ([(103, 0), (103, 1), (103, 52), (103, 34), (103, 38), (103, 39), (103, 40), (103, 54), (103, 55)] : List (Nat × Nat)) M p.2) (a2 : Int32) (a3 : Int32) (a4 : Int32) (a5 : Int32) (a6 : Int32) (a7 : Int32) (M : sp_Mem) (h : fX11_nights_j153 F kb kx a2 a3 a4 a5 a6 a7 M = some p) : sp_fr [104, 108, 124, 121, 123, 105, 125, 131] ([(103, 0), (103, 1), (103, 52), (103, 34), (103, 38), (103, 39), (103, 40), (103, 54), (103, 55)] : List (Nat × Nat)) M p.2 := by
  unfold fX11_nights_j153 at h
  by_cases hc16 : a7 = 1
  · have h := (if_pos hc16).symm.trans h
    obtain ⟨v18, hv18, h⟩ := Option.bind_eq_some_iff.mp h
    by_cases hc19 : v18 = 0
    · have h := (if_pos hc19).symm.trans h
      obtain ⟨M20, hM20, h⟩ := Option.bind_eq_some_iff.mp h
      refine sp_fr.tr (sp_fr.mono (by first | decide | simp) (by first | decide | simp) (frX11_passIt hM20)) ?_
      exact hb _ _ _ _ h
    · have h := (if_neg hc19).symm.trans h
      obtain ⟨j21, hj21, h⟩ := Option.bind_eq_some_iff.mp h
      obtain ⟨v22, hv22, h⟩ := Option.bind_eq_some_iff.mp h
      obtain ⟨j23, hj23, h⟩ := Option.bind_eq_some_iff.mp h
      obtain ⟨M24, hM24, h⟩ := sp_do_e h
      refine sp_fr.tr (sp_fr_I (Or.inl (by first | decide | simp)) hM24) ?_
      obtain ⟨M25, hM25, h⟩ := Option.bind_eq_some_iff.mp h
      refine sp_fr.tr (sp_fr.mono (by first | decide | simp) (by first | decide | simp) (frX11_passIt hM25)) ?_
      exact hb _ _ _ _ h
  · have h := (if_neg hc16).symm.trans h
    obtain ⟨M17, hM17, h⟩ := Option.bind_eq_some_iff.mp h
    refine sp_fr.tr (sp_fr.mono (by first | decide | simp) (by first | decide | simp) (frX11_passIt hM17)) ?_
    exact hb _ _ _ _ h
set_option maxRecDepth 100000 in
theorem frX11_nights_l77 {F : Nat} {kx : Int32 → sp_Mem → Option (Int32 × sp_Mem)} {p : (Int32 × sp_Mem)} (hx : ∀ (a3 : Int32) (M : sp_Mem), kx a3 M = some p → sp_fr [104, 108, 124, 121, 123, 105, 125, 131] ([(103, 0), (103, 1), (103, 52), (103, 34), (103, 38), (103, 39), (103, 40), (103, 54), (103, 55)] : List (Nat × Nat)) M p.2) : ∀ (n : Nat) (a2 : Int32) (a3 : Int32) (a4 : Int32) (M : sp_Mem), fX11_nights_l77 F kx n a2 a3 a4 M = some p → sp_fr [104, 108, 124, 121, 123, 105, 125, 131] ([(103, 0), (103, 1), (103, 52), (103, 34), (103, 38), (103, 39), (103, 40), (103, 54), (103, 55)] : List (Nat × Nat)) M p.2 := by
  intro n
  induction n with
  | zero =>
    intro a2 a3 a4 M h
    rw [fX11_nights_l77] at h
    cases h
  | succ n ih =>
    intro a2 a3 a4 M h
    rw [fX11_nights_l77] at h
    by_cases hc10 : a2 ≤ a4
    · have h := (if_pos hc10).symm.trans h
      exact hx _ _ h
    · have h := (if_neg hc10).symm.trans h
      by_cases hc11 : 999 ≤ (sp_I M 105 5)
      · have h := (if_pos hc11).symm.trans h
        exact hx _ _ h
      · have h := (if_neg hc11).symm.trans h
        obtain ⟨x12, hx12, h⟩ := Option.bind_eq_some_iff.mp h
        refine sp_fr.tr (sp_fr.mono (by first | decide | simp) (by first | decide | simp) (frX11_draw hx12)) ?_
        obtain ⟨x13, hx13, h⟩ := Option.bind_eq_some_iff.mp h
        refine sp_fr.tr (sp_fr.mono (by first | decide | simp) (by first | decide | simp) (frX11_draw hx13)) ?_
        obtain ⟨x14, hx14, h⟩ := Option.bind_eq_some_iff.mp h
        refine sp_fr.tr (sp_fr.mono (by first | decide | simp) (by first | decide | simp) (frX11_draw hx14)) ?_
        by_cases hc15 : x14.1 = 0
        · have h := (if_pos hc15).symm.trans h
          obtain ⟨x26, hx26, h⟩ := Option.bind_eq_some_iff.mp h
          refine sp_fr.tr (sp_fr.mono (by first | decide | simp) (by first | decide | simp) (frX11_canCall hx26)) ?_
          by_cases hc27 : x26.1 = 0
          · have h := (if_pos hc27).symm.trans h
            exact frX11_nights_j153 ih hx _ _ _ _ _ _ _ h
          · have h := (if_neg hc27).symm.trans h
            obtain ⟨M28, hM28, h⟩ := Option.bind_eq_some_iff.mp h
            refine sp_fr.tr (sp_fr.mono (by first | decide | simp) (by first | decide | simp) (frX11_callIt hM28)) ?_
            exact frX11_nights_j153 ih hx _ _ _ _ _ _ _ h
        · have h := (if_neg hc15).symm.trans h
          exact frX11_nights_j153 ih hx _ _ _ _ _ _ _ h
set_option maxRecDepth 100000 in
theorem frX11_nights_l216 {F : Nat} {kx : Int32 → sp_Mem → Option (Int32 × sp_Mem)} {p : (Int32 × sp_Mem)} (hx : ∀ (a3 : Int32) (M : sp_Mem), kx a3 M = some p → sp_fr [104, 108, 124, 121, 123, 105, 125, 131] ([(103, 0), (103, 1), (103, 52), (103, 34), (103, 38), (103, 39), (103, 40), (103, 54), (103, 55)] : List (Nat × Nat)) M p.2) : ∀ (n : Nat) (a3 : Int32) (a4 : Int32) (M : sp_Mem), fX11_nights_l216 F kx n a3 a4 M = some p → sp_fr [104, 108, 124, 121, 123, 105, 125, 131] ([(103, 0), (103, 1), (103, 52), (103, 34), (103, 38), (103, 39), (103, 40), (103, 54), (103, 55)] : List (Nat × Nat)) M p.2 := by
  intro n
  induction n with
  | zero =>
    intro a3 a4 M h
    rw [fX11_nights_l216] at h
    cases h
  | succ n ih =>
    intro a3 a4 M h
    rw [fX11_nights_l216] at h
    by_cases hc31 : 46 ≤ a4
    · have h := (if_pos hc31).symm.trans h
      exact hx _ _ h
    · have h := (if_neg hc31).symm.trans h
      obtain ⟨j32, hj32, h⟩ := Option.bind_eq_some_iff.mp h
      obtain ⟨j33, hj33, h⟩ := Option.bind_eq_some_iff.mp h
      obtain ⟨M34, hM34, h⟩ := sp_do_e h
      refine sp_fr.tr (sp_fr_I (Or.inl (by first | decide | simp)) hM34) ?_
      exact ih _ _ _ h
set_option maxRecDepth 100000 in
theorem frX11_nights_j213 {F : Nat} {p : (Int32 × sp_Mem)} (a3 : Int32) (M : sp_Mem) (h : fX11_nights_j213 F a3 M = some p) : sp_fr [104, 108, 124, 121, 123, 105, 125, 131] ([(103, 0), (103, 1), (103, 52), (103, 34), (103, 38), (103, 39), (103, 40), (103, 54), (103, 55)] : List (Nat × Nat)) M p.2 := by
  unfold fX11_nights_j213 at h
  refine frX11_nights_l216 (fun b36 M35 h => ?_) F _ _ _ h
  obtain ⟨M37, hM37, h⟩ := sp_do_e h
  refine sp_fr.tr (sp_fr_I (Or.inr (by first | decide | simp)) hM37) ?_
  obtain ⟨M38, hM38, h⟩ := sp_do_e h
  refine sp_fr.tr (sp_fr_I (Or.inr (by first | decide | simp)) hM38) ?_
  obtain ⟨M39, hM39, h⟩ := Option.bind_eq_some_iff.mp h
  refine sp_fr.tr (sp_fr.mono (by first | decide | simp) (by first | decide | simp) (frX11_putBack hM39)) ?_
  obtain ⟨x40, hx40, h⟩ := Option.bind_eq_some_iff.mp h
  refine sp_fr.tr (sp_fr.mono (by first | decide | simp) (by first | decide | simp) (frX11_tell hx40)) ?_
  cases h
  exact sp_fr.refl _ _ _
set_option maxRecDepth 100000 in
theorem frX11_nights {F : Nat} {p : (Int32 × sp_Mem)} {M : sp_Mem} {a1 : Int32} {a2 : Int32} (h : fX11_nights F M a1 a2 = some p) : sp_fr [104, 108, 124, 121, 123, 105, 125, 131] ([(103, 0), (103, 1), (103, 52), (103, 34), (103, 38), (103, 39), (103, 40), (103, 54), (103, 55)] : List (Nat × Nat)) M p.2 := by
  unfold fX11_nights at h
  obtain ⟨M1, hM1, h⟩ := sp_do_e h
  refine sp_fr.tr (sp_fr_I (Or.inr (by first | decide | simp)) hM1) ?_
  by_cases hc2 : (fX11_in (Int32.toInt64 a1) 0 1000000) = 0
  · have h := (if_pos hc2).symm.trans h
    obtain ⟨x3, hx3, h⟩ := Option.bind_eq_some_iff.mp h
    refine sp_fr.tr (sp_fr.mono (by first | decide | simp) (by first | decide | simp) (frX11_tell hx3)) ?_
    cases h
    exact sp_fr.refl _ _ _
  · have h := (if_neg hc2).symm.trans h
    by_cases hc4 : (fX11_in (Int32.toInt64 a2) 1 60) = 0
    · have h := (if_pos hc4).symm.trans h
      obtain ⟨x42, hx42, h⟩ := Option.bind_eq_some_iff.mp h
      refine sp_fr.tr (sp_fr.mono (by first | decide | simp) (by first | decide | simp) (frX11_tell hx42)) ?_
      cases h
      exact sp_fr.refl _ _ _
    · have h := (if_neg hc4).symm.trans h
      by_cases hc5 : (sp_I M1 105 0) = 0
      · have h := (if_pos hc5).symm.trans h
        obtain ⟨x6, hx6, h⟩ := Option.bind_eq_some_iff.mp h
        refine sp_fr.tr (sp_fr.mono (by first | decide | simp) (by first | decide | simp) (frX11_tell hx6)) ?_
        cases h
        exact sp_fr.refl _ _ _
      · have h := (if_neg hc5).symm.trans h
        by_cases hc7 : (sp_I M1 105 1) = 0
        · have h := (if_pos hc7).symm.trans h
          obtain ⟨x41, hx41, h⟩ := Option.bind_eq_some_iff.mp h
          refine sp_fr.tr (sp_fr.mono (by first | decide | simp) (by first | decide | simp) (frX11_tell hx41)) ?_
          cases h
          exact sp_fr.refl _ _ _
        · have h := (if_neg hc7).symm.trans h
          obtain ⟨M8, hM8, h⟩ := Option.bind_eq_some_iff.mp h
          refine sp_fr.tr (sp_fr.mono (by first | decide | simp) (by first | decide | simp) (frX11_keepAll hM8)) ?_
          obtain ⟨M9, hM9, h⟩ := sp_do_e h
          refine sp_fr.tr (sp_fr_L (Or.inr (by first | decide | simp)) hM9) ?_
          refine frX11_nights_l77 (fun b30 M29 h => ?_) F _ _ _ _ h
          exact frX11_nights_j213 _ _ h
set_option maxRecDepth 100000 in
theorem frX11_drawn_j69 {p : (Int32 × sp_Mem)} (a1 : Int32) (s0 : Int32) (M : sp_Mem) (h : fX11_drawn_j69 a1 s0 M = some p) : sp_fr [] ([(103, 0)] : List (Nat × Nat)) M p.2 := by
  unfold fX11_drawn_j69 at h
  obtain ⟨j7, hj7, h⟩ := Option.bind_eq_some_iff.mp h
  cases h
  exact sp_fr.refl _ _ _
set_option maxRecDepth 100000 in
theorem frX11_drawn_j36 {p : (Int32 × sp_Mem)} (a1 : Int32) (a2 : Int32) (s0 : Int32) (s1 : Int64) (s2 : Int64) (M : sp_Mem) (h : fX11_drawn_j36 a1 a2 s0 s1 s2 M = some p) : sp_fr [] ([(103, 0)] : List (Nat × Nat)) M p.2 := by
  unfold fX11_drawn_j36 at h
  by_cases hc4 : (fX11_in s2 s1 ((Int32.toInt64 s0) - 1)) = 0
  · have h := (if_pos hc4).symm.trans h
    cases h
    exact sp_fr.refl _ _ _
  · have h := (if_neg hc4).symm.trans h
    exact frX11_drawn_j69 _ _ _ h
set_option maxRecDepth 100000 in
theorem frX11_drawn {p : (Int32 × sp_Mem)} {M : sp_Mem} {a1 : Int32} {a2 : Int32} (h : fX11_drawn M a1 a2 = some p) : sp_fr [] ([(103, 0)] : List (Nat × Nat)) M p.2 := by
  unfold fX11_drawn at h
  obtain ⟨M1, hM1, h⟩ := sp_do_e h
  refine sp_fr.tr (sp_fr_I (Or.inr (by first | decide | simp)) hM1) ?_
  by_cases hc2 : (fX11_in (Int32.toInt64 a2) 0 2) = 0
  · have h := (if_pos hc2).symm.trans h
    cases h
    exact sp_fr.refl _ _ _
  · have h := (if_neg hc2).symm.trans h
    by_cases hc3 : 2 ≤ a2
    · have h := (if_pos hc3).symm.trans h
      exact frX11_drawn_j36 _ _ _ _ _ _ h
    · have h := (if_neg hc3).symm.trans h
      exact frX11_drawn_j36 _ _ _ _ _ _ h
set_option maxRecDepth 100000 in
theorem frX11_count {F : Nat} {p : (Int32 × sp_Mem)} {M : sp_Mem} {a1 : Int32} (h : fX11_count F M a1 = some p) : sp_fr [] ([(103, 0)] : List (Nat × Nat)) M p.2 := by
  unfold fX11_count at h
  obtain ⟨M1, hM1, h⟩ := sp_do_e h
  refine sp_fr.tr (sp_fr_I (Or.inr (by first | decide | simp)) hM1) ?_
  by_cases hc2 : a1 = 0
  · have h := (if_pos hc2).symm.trans h
    cases h
    exact sp_fr.refl _ _ _
  have h := (if_neg hc2).symm.trans h
  by_cases hc3 : a1 = 1
  · have h := (if_pos hc3).symm.trans h
    obtain ⟨v4, hv4, h⟩ := Option.bind_eq_some_iff.mp h
    obtain ⟨v5, hv5, h⟩ := Option.bind_eq_some_iff.mp h
    cases h
    exact sp_fr.refl _ _ _
  have h := (if_neg hc3).symm.trans h
  by_cases hc6 : a1 = 2
  · have h := (if_pos hc6).symm.trans h
    cases h
    exact sp_fr.refl _ _ _
  have h := (if_neg hc6).symm.trans h
  by_cases hc7 : a1 = 3
  · have h := (if_pos hc7).symm.trans h
    cases h
    exact sp_fr.refl _ _ _
  have h := (if_neg hc7).symm.trans h
  by_cases hc8 : a1 = 4
  · have h := (if_pos hc8).symm.trans h
    cases h
    exact sp_fr.refl _ _ _
  have h := (if_neg hc8).symm.trans h
  by_cases hc9 : a1 = 5
  · have h := (if_pos hc9).symm.trans h
    cases h
    exact sp_fr.refl _ _ _
  have h := (if_neg hc9).symm.trans h
  by_cases hc10 : a1 = 6
  · have h := (if_pos hc10).symm.trans h
    cases h
    exact sp_fr.refl _ _ _
  have h := (if_neg hc10).symm.trans h
  by_cases hc11 : a1 = 7
  · have h := (if_pos hc11).symm.trans h
    cases h
    exact sp_fr.refl _ _ _
  have h := (if_neg hc11).symm.trans h
  by_cases hc12 : a1 = 8
  · have h := (if_pos hc12).symm.trans h
    cases h
    exact sp_fr.refl _ _ _
  have h := (if_neg hc12).symm.trans h
  by_cases hc13 : a1 = 9
  · have h := (if_pos hc13).symm.trans h
    cases h
    exact sp_fr.refl _ _ _
  have h := (if_neg hc13).symm.trans h
  by_cases hc14 : a1 = 10
  · have h := (if_pos hc14).symm.trans h
    cases h
    exact sp_fr.refl _ _ _
  have h := (if_neg hc14).symm.trans h
  by_cases hc15 : a1 = 11
  · have h := (if_pos hc15).symm.trans h
    cases h
    exact sp_fr.refl _ _ _
  have h := (if_neg hc15).symm.trans h
  by_cases hc16 : a1 = 12
  · have h := (if_pos hc16).symm.trans h
    cases h
    exact sp_fr.refl _ _ _
  have h := (if_neg hc16).symm.trans h
  by_cases hc17 : (fX11_in (Int32.toInt64 a1) 13 16) = 0
  · have h := (if_pos hc17).symm.trans h
    cases h
    exact sp_fr.refl _ _ _
  · have h := (if_neg hc17).symm.trans h
    obtain ⟨j18, hj18, h⟩ := Option.bind_eq_some_iff.mp h
    cases h
    exact sp_fr.refl _ _ _
set_option maxRecDepth 100000 in
theorem frX11_status {p : (Int32 × sp_Mem)} {M : sp_Mem} (h : fX11_status M = some p) : sp_fr [] ([(103, 0)] : List (Nat × Nat)) M p.2 := by
  unfold fX11_status at h
  obtain ⟨M1, hM1, h⟩ := sp_do_e h
  refine sp_fr.tr (sp_fr_I (Or.inr (by first | decide | simp)) hM1) ?_
  cases h
  exact sp_fr.refl _ _ _
set_option maxRecDepth 100000 in
theorem frX0_value_j95 {F : Nat} {o1 : Nat} {o3 : Nat} {kb : Int32 → Int32 → Int32 → sp_Mem → Option (Int32 × sp_Mem)} {kx : sp_Mem → Option (Int32 × sp_Mem)} {p : (Int32 × sp_Mem)} (hb : ∀ (a4 : Int32) (a5 : Int32) (a6 : Int32) (M : sp_Mem), kb a4 a5 a6 M = some p → sp_fr [3] ([] : List (Nat × Nat)) M p.2) (hx : ∀  (M : sp_Mem), kx M = some p → sp_fr [3] ([] : List (Nat × Nat)) M p.2) (a4 : Int32) (a5 : Int32) (a6 : Int32) (a7 : Int32) (a8 : Int32) (M : sp_Mem) (h : fX0_value_j95 F o1 o3 kb kx a4 a5 a6 a7 a8 M = some p) : sp_fr [3] ([] : List (Nat × Nat)) M p.2 := by
  unfold fX0_value_j95 at h
  by_cases hc11 : a7 = 2
  · have h := (if_pos hc11).symm.trans h
    obtain ⟨j14, hj14, h⟩ := Option.bind_eq_some_iff.mp h
    obtain ⟨j15, hj15, h⟩ := Option.bind_eq_some_iff.mp h
    obtain ⟨M16, hM16, h⟩ := sp_do_e h
    refine sp_fr.tr (sp_fr_I (Or.inl (by first | decide | simp)) hM16) ?_
    exact hb _ _ _ _ h
  · have h := (if_neg hc11).symm.trans h
    obtain ⟨j12, hj12, h⟩ := Option.bind_eq_some_iff.mp h
    obtain ⟨M13, hM13, h⟩ := sp_do_e h
    refine sp_fr.tr (sp_fr_I (Or.inl (by first | decide | simp)) hM13) ?_
    exact hb _ _ _ _ h
set_option maxRecDepth 100000 in
theorem frX0_value_j66 {F : Nat} {o1 : Nat} {o3 : Nat} {kb : Int32 → Int32 → Int32 → sp_Mem → Option (Int32 × sp_Mem)} {kx : sp_Mem → Option (Int32 × sp_Mem)} {p : (Int32 × sp_Mem)} (hb : ∀ (a4 : Int32) (a5 : Int32) (a6 : Int32) (M : sp_Mem), kb a4 a5 a6 M = some p → sp_fr [3] ([] : List (Nat × Nat)) M p.2) (hx : ∀  (M : sp_Mem), kx M = some p → sp_fr [3] ([] : List (Nat × Nat)) M p.2) (a4 : Int32) (a5 : Int32) (a6 : Int32) (a7 : Int32) (a8 : Int32) (M : sp_Mem) (h : fX0_value_j66 F o1 o3 kb kx a4 a5 a6 a7 a8 M = some p) : sp_fr [3] ([] : List (Nat × Nat)) M p.2 := by
  unfold fX0_value_j66 at h
  by_cases hc9 : 52 ≤ (a4 + 1)
  · have h := (if_pos hc9).symm.trans h
    cases h
    exact sp_fr.refl _ _ _
  · have h := (if_neg hc9).symm.trans h
    by_cases hc10 : a7 = 2
    · have h := (if_pos hc10).symm.trans h
      by_cases hc17 : a8 < (Int32.ofNat (sp_N M o3))
      · have h := (if_pos hc17).symm.trans h
        exact frX0_value_j95 hb hx _ _ _ _ _ _ h
      · have h := (if_neg hc17).symm.trans h
        cases h
        exact sp_fr.refl _ _ _
    · have h := (if_neg hc10).symm.trans h
      exact frX0_value_j95 hb hx _ _ _ _ _ _ h
set_option maxRecDepth 100000 in
theorem frX0_value_j130 {F : Nat} {o1 : Nat} {o3 : Nat} {kb : Int32 → Int32 → Int32 → sp_Mem → Option (Int32 × sp_Mem)} {kx : sp_Mem → Option (Int32 × sp_Mem)} {p : (Int32 × sp_Mem)} (hb : ∀ (a4 : Int32) (a5 : Int32) (a6 : Int32) (M : sp_Mem), kb a4 a5 a6 M = some p → sp_fr [3] ([] : List (Nat × Nat)) M p.2) (hx : ∀  (M : sp_Mem), kx M = some p → sp_fr [3] ([] : List (Nat × Nat)) M p.2) (a4 : Int32) (M : sp_Mem) (h : fX0_value_j130 F o1 o3 kb kx a4 M = some p) : sp_fr [3] ([] : List (Nat × Nat)) M p.2 := by
  unfold fX0_value_j130 at h
  by_cases hc20 : 0 ≤ a4
  · have h := (if_pos hc20).symm.trans h
    obtain ⟨j21, hj21, h⟩ := Option.bind_eq_some_iff.mp h
    cases h
    exact sp_fr.refl _ _ _
  · have h := (if_neg hc20).symm.trans h
    cases h
    exact sp_fr.refl _ _ _
set_option maxRecDepth 100000 in
theorem frX0_value_j207 {F : Nat} {o1 : Nat} {o3 : Nat} {kb : Int32 → Int32 → Int32 → sp_Mem → Option (Int32 × sp_Mem)} {kx : sp_Mem → Option (Int32 × sp_Mem)} {p : (Int32 × sp_Mem)} (hb : ∀ (a4 : Int32) (a5 : Int32) (a6 : Int32) (M : sp_Mem), kb a4 a5 a6 M = some p → sp_fr [3] ([] : List (Nat × Nat)) M p.2) (hx : ∀  (M : sp_Mem), kx M = some p → sp_fr [3] ([] : List (Nat × Nat)) M p.2) (a4 : Int32) (a5 : Int32) (a6 : Int32) (a8 : Int32) (s0 : Int32) (s1 : Int32) (M : sp_Mem) (h : fX0_value_j207 F o1 o3 kb kx a4 a5 a6 a8 s0 s1 M = some p) : sp_fr [3] ([] : List (Nat × Nat)) M p.2 := by
  unfold fX0_value_j207 at h
  by_cases hc27 : s1 = s0
  · have h := (if_pos hc27).symm.trans h
    obtain ⟨u28, hu28, h⟩ := sp_do_e h
    exact hb _ _ _ _ h
  · have h := (if_neg hc27).symm.trans h
    exact hb _ _ _ _ h
set_option maxRecDepth 100000 in
theorem frX0_value_j188 {F : Nat} {o1 : Nat} {o3 : Nat} {kb : Int32 → Int32 → Int32 → sp_Mem → Option (Int32 × sp_Mem)} {kx : sp_Mem → Option (Int32 × sp_Mem)} {p : (Int32 × sp_Mem)} (hb : ∀ (a4 : Int32) (a5 : Int32) (a6 : Int32) (M : sp_Mem), kb a4 a5 a6 M = some p → sp_fr [3] ([] : List (Nat × Nat)) M p.2) (hx : ∀  (M : sp_Mem), kx M = some p → sp_fr [3] ([] : List (Nat × Nat)) M p.2) (a4 : Int32) (a5 : Int32) (a6 : Int32) (a7 : Int32) (a8 : Int32) (M : sp_Mem) (h : fX0_value_j188 F o1 o3 kb kx a4 a5 a6 a7 a8 M = some p) : sp_fr [3] ([] : List (Nat × Nat)) M p.2 := by
  unfold fX0_value_j188 at h
  obtain ⟨j25, hj25, h⟩ := Option.bind_eq_some_iff.mp h
  exact frX0_value_j207 hb hx _ _ _ _ _ _ _ h
set_option maxRecDepth 100000 in
theorem frX0_value_j267 {F : Nat} {o1 : Nat} {o3 : Nat} {kb : Int32 → Int32 → Int32 → sp_Mem → Option (Int32 × sp_Mem)} {kx : sp_Mem → Option (Int32 × sp_Mem)} {p : (Int32 × sp_Mem)} (hb : ∀ (a4 : Int32) (a5 : Int32) (a6 : Int32) (M : sp_Mem), kb a4 a5 a6 M = some p → sp_fr [3] ([] : List (Nat × Nat)) M p.2) (hx : ∀  (M : sp_Mem), kx M = some p → sp_fr [3] ([] : List (Nat × Nat)) M p.2) (a4 : Int32) (a5 : Int32) (a6 : Int32) (s0 : Int64) (M : sp_Mem) (h : fX0_value_j267 F o1 o3 kb kx a4 a5 a6 s0 M = some p) : sp_fr [3] ([] : List (Nat × Nat)) M p.2 := by
  unfold fX0_value_j267 at h
  by_cases hc34 : s0 < (-1000000000)
  · have h := (if_pos hc34).symm.trans h
    cases h
    exact sp_fr.refl _ _ _
  · have h := (if_neg hc34).symm.trans h
    by_cases hc35 : s0 ≤ 1000000000
    · have h := (if_pos hc35).symm.trans h
      obtain ⟨j36, hj36, h⟩ := Option.bind_eq_some_iff.mp h
      obtain ⟨M37, hM37, h⟩ := sp_do_e h
      refine sp_fr.tr (sp_fr_I (Or.inl (by first | decide | simp)) hM37) ?_
      exact hb _ _ _ _ h
    · have h := (if_neg hc35).symm.trans h
      cases h
      exact sp_fr.refl _ _ _
set_option maxRecDepth 100000 in
theorem frX0_value_l24 {F : Nat} {o1 : Nat} {o3 : Nat} {kx : sp_Mem → Option (Int32 × sp_Mem)} {p : (Int32 × sp_Mem)} (hx : ∀  (M : sp_Mem), kx M = some p → sp_fr [3] ([] : List (Nat × Nat)) M p.2) : ∀ (n : Nat) (a4 : Int32) (a5 : Int32) (a6 : Int32) (M : sp_Mem), fX0_value_l24 F o1 o3 kx n a4 a5 a6 M = some p → sp_fr [3] ([] : List (Nat × Nat)) M p.2 := by
  intro n
  induction n with
  | zero =>
    intro a4 a5 a6 M h
    rw [fX0_value_l24] at h
    cases h
  | succ n ih =>
    intro a4 a5 a6 M h
    rw [fX0_value_l24] at h
    by_cases hc3 : a5 ≤ a6
    · have h := (if_pos hc3).symm.trans h
      exact hx _ h
    · have h := (if_neg hc3).symm.trans h
      obtain ⟨j4, hj4, h⟩ := Option.bind_eq_some_iff.mp h
      obtain ⟨u5, hu5, h⟩ := sp_do_e h
      obtain ⟨j6, hj6, h⟩ := Option.bind_eq_some_iff.mp h
      obtain ⟨u7, hu7, h⟩ := sp_do_e h
      by_cases hc8 : u5 = 1
      · have h := (if_pos hc8).symm.trans h
        exact frX0_value_j66 ih hx _ _ _ _ _ _ h
      · have h := (if_neg hc8).symm.trans h
        by_cases hc18 : u5 = 2
        · have h := (if_pos hc18).symm.trans h
          exact frX0_value_j66 ih hx _ _ _ _ _ _ h
        · have h := (if_neg hc18).symm.trans h
          by_cases hc19 : a4 < 0
          · have h := (if_pos hc19).symm.trans h
            exact frX0_value_j130 ih hx _ _ h
          · have h := (if_neg hc19).symm.trans h
            by_cases hc22 : u5 = 0
            · have h := (if_pos hc22).symm.trans h
              exact frX0_value_j130 ih hx _ _ h
            · have h := (if_neg hc22).symm.trans h
              by_cases hc23 : u5 = 11
              · have h := (if_pos hc23).symm.trans h
                obtain ⟨j38, hj38, h⟩ := Option.bind_eq_some_iff.mp h
                obtain ⟨j39, hj39, h⟩ := Option.bind_eq_some_iff.mp h
                obtain ⟨M40, hM40, h⟩ := sp_do_e h
                refine sp_fr.tr (sp_fr_I (Or.inl (by first | decide | simp)) hM40) ?_
                exact ih _ _ _ _ h
              · have h := (if_neg hc23).symm.trans h
                by_cases hc24 : u5 = 12
                · have h := (if_pos hc24).symm.trans h
                  exact frX0_value_j188 ih hx _ _ _ _ _ _ h
                · have h := (if_neg hc24).symm.trans h
                  by_cases hc29 : u5 = 13
                  · have h := (if_pos hc29).symm.trans h
                    exact frX0_value_j188 ih hx _ _ _ _ _ _ h
                  · have h := (if_neg hc29).symm.trans h
                    by_cases hc30 : 0 ≤ (a4 + (-1))
                    · have h := (if_pos hc30).symm.trans h
                      obtain ⟨j31, hj31, h⟩ := Option.bind_eq_some_iff.mp h
                      obtain ⟨j32, hj32, h⟩ := Option.bind_eq_some_iff.mp h
                      obtain ⟨v33, hv33, h⟩ := Option.bind_eq_some_iff.mp h
                      exact frX0_value_j267 ih hx _ _ _ _ _ h
                    · have h := (if_neg hc30).symm.trans h
                      exact frX0_value_j267 ih hx _ _ _ _ _ h
set_option maxRecDepth 100000 in
theorem frX0_value {F : Nat} {o1 : Nat} {o3 : Nat} {p : (Int32 × sp_Mem)} {M : sp_Mem} {a2 : Int32} (h : fX0_value F M o1 a2 o3 = some p) : sp_fr [3] ([] : List (Nat × Nat)) M p.2 := by
  unfold fX0_value at h
  obtain ⟨u1, hu1, h⟩ := sp_do_e h
  obtain ⟨u2, hu2, h⟩ := sp_do_e h
  refine frX0_value_l24 (fun M41 h => ?_) F _ _ _ _ h
  cases h
  exact sp_fr.refl _ _ _
set_option maxRecDepth 100000 in
theorem frX5_copyFrom_l172 {F : Nat} {o0 : Nat} {o1 : Nat} {kx : sp_Mem → Option sp_Mem} {p : sp_Mem} (hx : ∀  (M : sp_Mem), kx M = some p → sp_fr [(o0 + 1), (o0 + 2), (o0 + 3), (o0 + 4), (o0 + 5), (o0 + 6), (o0 + 7), (o0 + 8), (o0 + 9), (o0 + 10), (o0 + 11)] ([(o0, 4), (o0, 8), (o0, 11), (o0, 14), (o0, 15)] : List (Nat × Nat)) M p) : ∀ (n : Nat) (a2 : Int32) (M : sp_Mem), fX5_copyFrom_l172 F o0 o1 kx n a2 M = some p → sp_fr [(o0 + 1), (o0 + 2), (o0 + 3), (o0 + 4), (o0 + 5), (o0 + 6), (o0 + 7), (o0 + 8), (o0 + 9), (o0 + 10), (o0 + 11)] ([(o0, 4), (o0, 8), (o0, 11), (o0, 14), (o0, 15)] : List (Nat × Nat)) M p := by
  intro n
  induction n with
  | zero =>
    intro a2 M h
    rw [fX5_copyFrom_l172] at h
    cases h
  | succ n ih =>
    intro a2 M h
    rw [fX5_copyFrom_l172] at h
    by_cases hc14 : 6 ≤ a2
    · have h := (if_pos hc14).symm.trans h
      exact hx _ h
    · have h := (if_neg hc14).symm.trans h
      obtain ⟨j15, hj15, h⟩ := Option.bind_eq_some_iff.mp h
      obtain ⟨j16, hj16, h⟩ := Option.bind_eq_some_iff.mp h
      obtain ⟨M17, hM17, h⟩ := sp_do_e h
      refine sp_fr.tr (sp_fr_P (Or.inl (by first | decide | simp)) hM17) ?_
      exact ih _ _ h
set_option maxRecDepth 100000 in
theorem frX5_copyFrom {F : Nat} {o0 : Nat} {o1 : Nat} {p : sp_Mem} {M : sp_Mem} (h : fX5_copyFrom F M o0 o1 = some p) : sp_fr [(o0 + 1), (o0 + 2), (o0 + 3), (o0 + 4), (o0 + 5), (o0 + 6), (o0 + 7), (o0 + 8), (o0 + 9), (o0 + 10), (o0 + 11)] ([(o0, 4), (o0, 8), (o0, 11), (o0, 14), (o0, 15)] : List (Nat × Nat)) M p := by
  unfold fX5_copyFrom at h
  obtain ⟨M1, hM1, h⟩ := sp_do_e h
  refine sp_fr.tr (sp_fr_C (by first | decide | simp) hM1) ?_
  obtain ⟨M2, hM2, h⟩ := sp_do_e h
  refine sp_fr.tr (sp_fr_C (by first | decide | simp) hM2) ?_
  obtain ⟨M3, hM3, h⟩ := sp_do_e h
  refine sp_fr.tr (sp_fr_C (by first | decide | simp) hM3) ?_
  obtain ⟨M4, hM4, h⟩ := sp_do_e h
  refine sp_fr.tr (sp_fr_C (by first | decide | simp) hM4) ?_
  obtain ⟨M5, hM5, h⟩ := sp_do_e h
  refine sp_fr.tr (sp_fr_I (Or.inr (by first | decide | simp)) hM5) ?_
  obtain ⟨M6, hM6, h⟩ := sp_do_e h
  refine sp_fr.tr (sp_fr_C (by first | decide | simp) hM6) ?_
  obtain ⟨M7, hM7, h⟩ := sp_do_e h
  refine sp_fr.tr (sp_fr_C (by first | decide | simp) hM7) ?_
  obtain ⟨M8, hM8, h⟩ := sp_do_e h
  refine sp_fr.tr (sp_fr_C (by first | decide | simp) hM8) ?_
  obtain ⟨M9, hM9, h⟩ := sp_do_e h
  refine sp_fr.tr (sp_fr_I (Or.inr (by first | decide | simp)) hM9) ?_
  obtain ⟨M10, hM10, h⟩ := sp_do_e h
  refine sp_fr.tr (sp_fr_C (by first | decide | simp) hM10) ?_
  obtain ⟨M11, hM11, h⟩ := sp_do_e h
  refine sp_fr.tr (sp_fr_C (by first | decide | simp) hM11) ?_
  obtain ⟨M12, hM12, h⟩ := sp_do_e h
  refine sp_fr.tr (sp_fr_I (Or.inr (by first | decide | simp)) hM12) ?_
  obtain ⟨M13, hM13, h⟩ := sp_do_e h
  refine sp_fr.tr (sp_fr_C (by first | decide | simp) hM13) ?_
  refine frX5_copyFrom_l172 (fun M18 h => ?_) F _ _ h
  obtain ⟨M19, hM19, h⟩ := sp_do_e h
  refine sp_fr.tr (sp_fr_I (Or.inr (by first | decide | simp)) hM19) ?_
  obtain ⟨M20, hM20, h⟩ := sp_do_e h
  refine sp_fr.tr (sp_fr_I (Or.inr (by first | decide | simp)) hM20) ?_
  cases h
  exact sp_fr.refl _ _ _
set_option maxRecDepth 100000 in
theorem frX6_lookAt {o1 : Nat} {p : sp_Mem} {M : sp_Mem} {a2 : Int32} {a3 : Int32} {a4 : Int32} (h : fX6_lookAt M o1 a2 a3 a4 = some p) : sp_fr [4] ([] : List (Nat × Nat)) M p := by
  unfold fX6_lookAt at h
  by_cases hc1 : (fX5_hasSpark M o1 a2) = 0
  · have h := (if_pos hc1).symm.trans h
    cases h
    exact sp_fr.refl _ _ _
  · have h := (if_neg hc1).symm.trans h
    by_cases hc2 : (fX10_isCell a3) = 0
    · have h := (if_pos hc2).symm.trans h
      cases h
      exact sp_fr.refl _ _ _
    · have h := (if_neg hc2).symm.trans h
      obtain ⟨M3, hM3, h⟩ := sp_do_e h
      refine sp_fr.tr (sp_fr_I (Or.inl (by first | decide | simp)) hM3) ?_
      obtain ⟨j4, hj4, h⟩ := Option.bind_eq_some_iff.mp h
      obtain ⟨M5, hM5, h⟩ := sp_do_e h
      refine sp_fr.tr (sp_fr_I (Or.inl (by first | decide | simp)) hM5) ?_
      obtain ⟨j6, hj6, h⟩ := Option.bind_eq_some_iff.mp h
      obtain ⟨M7, hM7, h⟩ := sp_do_e h
      refine sp_fr.tr (sp_fr_I (Or.inl (by first | decide | simp)) hM7) ?_
      obtain ⟨M8, hM8, h⟩ := sp_do_e h
      refine sp_fr.tr (sp_fr_I (Or.inl (by first | decide | simp)) hM8) ?_
      obtain ⟨M9, hM9, h⟩ := sp_do_e h
      refine sp_fr.tr (sp_fr_I (Or.inl (by first | decide | simp)) hM9) ?_
      obtain ⟨j10, hj10, h⟩ := Option.bind_eq_some_iff.mp h
      obtain ⟨M11, hM11, h⟩ := sp_do_e h
      refine sp_fr.tr (sp_fr_I (Or.inl (by first | decide | simp)) hM11) ?_
      obtain ⟨v12, hv12, h⟩ := Option.bind_eq_some_iff.mp h
      obtain ⟨M13, hM13, h⟩ := sp_do_e h
      refine sp_fr.tr (sp_fr_I (Or.inl (by first | decide | simp)) hM13) ?_
      obtain ⟨M14, hM14, h⟩ := sp_do_e h
      refine sp_fr.tr (sp_fr_I (Or.inl (by first | decide | simp)) hM14) ?_
      obtain ⟨M15, hM15, h⟩ := sp_do_e h
      refine sp_fr.tr (sp_fr_I (Or.inl (by first | decide | simp)) hM15) ?_
      obtain ⟨M16, hM16, h⟩ := sp_do_e h
      refine sp_fr.tr (sp_fr_I (Or.inl (by first | decide | simp)) hM16) ?_
      cases h
      exact sp_fr.refl _ _ _
set_option maxRecDepth 100000 in
theorem frX6_toldBy_j145 {F : Nat} {o1 : Nat} {t : Nat} {kb : Int32 → Int32 → sp_Mem → Option (Int32 × sp_Mem)} {kx : sp_Mem → Option (Int32 × sp_Mem)} {p : (Int32 × sp_Mem)} (hb : ∀ (a2 : Int32) (a7 : Int32) (M : sp_Mem), kb a2 a7 M = some p → sp_fr [4, 3] ([] : List (Nat × Nat)) M p.2) (hx : ∀  (M : sp_Mem), kx M = some p → sp_fr [4, 3] ([] : List (Nat × Nat)) M p.2) (a2 : Int32) (a7 : Int32) (s0 : Int32) (M : sp_Mem) (h : fX6_toldBy_j145 F o1 t kb kx a2 a7 s0 M = some p) : sp_fr [4, 3] ([] : List (Nat × Nat)) M p.2 := by
  unfold fX6_toldBy_j145 at h
  by_cases hc14 : s0 = (-2000000000)
  · have h := (if_pos hc14).symm.trans h
    exact hb _ _ _ h
  · have h := (if_neg hc14).symm.trans h
    cases h
    exact sp_fr.refl _ _ _
set_option maxRecDepth 100000 in
theorem frX6_toldBy_j108 {F : Nat} {o1 : Nat} {t : Nat} {kb : Int32 → Int32 → sp_Mem → Option (Int32 × sp_Mem)} {kx : sp_Mem → Option (Int32 × sp_Mem)} {p : (Int32 × sp_Mem)} (hb : ∀ (a2 : Int32) (a7 : Int32) (M : sp_Mem), kb a2 a7 M = some p → sp_fr [4, 3] ([] : List (Nat × Nat)) M p.2) (hx : ∀  (M : sp_Mem), kx M = some p → sp_fr [4, 3] ([] : List (Nat × Nat)) M p.2) (a2 : Int32) (a7 : Int32) (a9 : Int32) (s0 : Int32) (M : sp_Mem) (h : fX6_toldBy_j108 F o1 t kb kx a2 a7 a9 s0 M = some p) : sp_fr [4, 3] ([] : List (Nat × Nat)) M p.2 := by
  unfold fX6_toldBy_j108 at h
  by_cases hc11 : s0 = 0
  · have h := (if_pos hc11).symm.trans h
    exact frX6_toldBy_j145 hb hx _ _ _ _ h
  · have h := (if_neg hc11).symm.trans h
    by_cases hc12 : a9 = (-1)
    · have h := (if_pos hc12).symm.trans h
      exact frX6_toldBy_j145 hb hx _ _ _ _ h
    · have h := (if_neg hc12).symm.trans h
      obtain ⟨x13, hx13, h⟩ := Option.bind_eq_some_iff.mp h
      refine sp_fr.tr (sp_fr.mono (by first | decide | simp) (by first | decide | simp) (frX0_value hx13)) ?_
      exact frX6_toldBy_j145 hb hx _ _ _ _ h
set_option maxRecDepth 100000 in
theorem frX6_toldBy_j103 {F : Nat} {o1 : Nat} {t : Nat} {kb : Int32 → Int32 → sp_Mem → Option (Int32 × sp_Mem)} {kx : sp_Mem → Option (Int32 × sp_Mem)} {p : (Int32 × sp_Mem)} (hb : ∀ (a2 : Int32) (a7 : Int32) (M : sp_Mem), kb a2 a7 M = some p → sp_fr [4, 3] ([] : List (Nat × Nat)) M p.2) (hx : ∀  (M : sp_Mem), kx M = some p → sp_fr [4, 3] ([] : List (Nat × Nat)) M p.2) (a2 : Int32) (a7 : Int32) (a9 : Int32) (M : sp_Mem) (h : fX6_toldBy_j103 F o1 t kb kx a2 a7 a9 M = some p) : sp_fr [4, 3] ([] : List (Nat × Nat)) M p.2 := by
  unfold fX6_toldBy_j103 at h
  exact frX6_toldBy_j108 hb hx _ _ _ _ _ h
set_option maxRecDepth 100000 in
theorem frX6_toldBy_l41 {F : Nat} {o1 : Nat} {t : Nat} {kx : sp_Mem → Option (Int32 × sp_Mem)} {p : (Int32 × sp_Mem)} (hx : ∀  (M : sp_Mem), kx M = some p → sp_fr [4, 3] ([] : List (Nat × Nat)) M p.2) : ∀ (n : Nat) (a2 : Int32) (a7 : Int32) (M : sp_Mem), fX6_toldBy_l41 F o1 t kx n a2 a7 M = some p → sp_fr [4, 3] ([] : List (Nat × Nat)) M p.2 := by
  intro n
  induction n with
  | zero =>
    intro a2 a7 M h
    rw [fX6_toldBy_l41] at h
    cases h
  | succ n ih =>
    intro a2 a7 M h
    rw [fX6_toldBy_l41] at h
    by_cases hc5 : a7 < 0
    · have h := (if_pos hc5).symm.trans h
      exact hx _ h
    · have h := (if_neg hc5).symm.trans h
      obtain ⟨v6, hv6, h⟩ := Option.bind_eq_some_iff.mp h
      by_cases hc7 : v6 = a2
      · have h := (if_pos hc7).symm.trans h
        obtain ⟨v8, hv8, h⟩ := Option.bind_eq_some_iff.mp h
        obtain ⟨v9, hv9, h⟩ := Option.bind_eq_some_iff.mp h
        by_cases hc10 : v8 = (-1)
        · have h := (if_pos hc10).symm.trans h
          exact frX6_toldBy_j103 ih hx _ _ _ _ h
        · have h := (if_neg hc10).symm.trans h
          obtain ⟨x15, hx15, h⟩ := Option.bind_eq_some_iff.mp h
          refine sp_fr.tr (sp_fr.mono (by first | decide | simp) (by first | decide | simp) (frX0_value hx15)) ?_
          exact frX6_toldBy_j108 ih hx _ _ _ _ _ h
      · have h := (if_neg hc7).symm.trans h
        exact ih _ _ _ h
set_option maxRecDepth 100000 in
theorem frX6_toldBy_j11 {F : Nat} {o1 : Nat} {t : Nat} {p : (Int32 × sp_Mem)} (a2 : Int32) (a3 : Int32) (a4 : Int32) (a5 : Int32) (M : sp_Mem) (h : fX6_toldBy_j11 F o1 t a2 a3 a4 a5 M = some p) : sp_fr [4, 3] ([] : List (Nat × Nat)) M p.2 := by
  unfold fX6_toldBy_j11 at h
  by_cases hc2 : (fX10_isCell a4) = 0
  · have h := (if_pos hc2).symm.trans h
    cases h
    exact sp_fr.refl _ _ _
  · have h := (if_neg hc2).symm.trans h
    obtain ⟨M3, hM3, h⟩ := Option.bind_eq_some_iff.mp h
    refine sp_fr.tr (sp_fr.mono (by first | decide | simp) (by first | decide | simp) (frX6_lookAt hM3)) ?_
    obtain ⟨u4, hu4, h⟩ := sp_do_e h
    refine frX6_toldBy_l41 (fun M17 h => ?_) F _ _ _ h
    cases h
    exact sp_fr.refl _ _ _
set_option maxRecDepth 100000 in
theorem frX6_toldBy {F : Nat} {o1 : Nat} {p : (Int32 × sp_Mem)} {M : sp_Mem} {a2 : Int32} {a3 : Int32} {a4 : Int32} {a5 : Int32} (h : fX6_toldBy F M o1 a2 a3 a4 a5 = some p) : sp_fr [4, 3] ([] : List (Nat × Nat)) M p.2 := by
  unfold fX6_toldBy at h
  obtain ⟨v1, hv1, h⟩ := Option.bind_eq_some_iff.mp h
  rcases sp_mq_e h with ⟨hq, h⟩ | ⟨t, hq, h⟩
  · cases h
    exact sp_fr.refl _ _ _
  · exact frX6_toldBy_j11 _ _ _ _ _ h
set_option maxRecDepth 100000 in
theorem frX6_wayOf {F : Nat} {o1 : Nat} {p : (Int32 × sp_Mem)} {M : sp_Mem} {a2 : Int32} (h : fX6_wayOf F M o1 a2 = some p) : sp_fr [4, 3] ([] : List (Nat × Nat)) M p.2 := by
  unfold fX6_wayOf at h
  obtain ⟨j1, hj1, h⟩ := Option.bind_eq_some_iff.mp h
  obtain ⟨x2, hx2, h⟩ := Option.bind_eq_some_iff.mp h
  refine sp_fr.tr (sp_fr.mono (by first | decide | simp) (by first | decide | simp) (frX6_toldBy hx2)) ?_
  by_cases hc3 : x2.1 = (-2000000000)
  · have h := (if_pos hc3).symm.trans h
    cases h
    exact sp_fr.refl _ _ _
  · have h := (if_neg hc3).symm.trans h
    cases h
    exact sp_fr.refl _ _ _
set_option maxRecDepth 100000 in
theorem frX6_isBarred {F : Nat} {o1 : Nat} {p : (Int32 × sp_Mem)} {M : sp_Mem} {a2 : Int32} {a3 : Int32} (h : fX6_isBarred F M o1 a2 a3 = some p) : sp_fr [4, 3] ([] : List (Nat × Nat)) M p.2 := by
  unfold fX6_isBarred at h
  obtain ⟨j1, hj1, h⟩ := Option.bind_eq_some_iff.mp h
  by_cases hc2 : (sp_I M (o1 + 1) j1) = 3
  · have h := (if_pos hc2).symm.trans h
    cases h
    exact sp_fr.refl _ _ _
  · have h := (if_neg hc2).symm.trans h
    obtain ⟨x3, hx3, h⟩ := Option.bind_eq_some_iff.mp h
    refine sp_fr.tr (sp_fr.mono (by first | decide | simp) (by first | decide | simp) (frX6_toldBy hx3)) ?_
    cases h
    exact sp_fr.refl _ _ _
set_option maxRecDepth 100000 in
theorem frX6_burnOf {F : Nat} {o1 : Nat} {p : (Int32 × sp_Mem)} {M : sp_Mem} {a2 : Int32} (h : fX6_burnOf F M o1 a2 = some p) : sp_fr [4, 3] ([] : List (Nat × Nat)) M p.2 := by
  unfold fX6_burnOf at h
  obtain ⟨j1, hj1, h⟩ := Option.bind_eq_some_iff.mp h
  obtain ⟨u2, hu2, h⟩ := sp_do_e h
  obtain ⟨x3, hx3, h⟩ := Option.bind_eq_some_iff.mp h
  refine sp_fr.tr (sp_fr.mono (by first | decide | simp) (by first | decide | simp) (frX6_toldBy hx3)) ?_
  by_cases hc4 : x3.1 = (-2000000000)
  · have h := (if_pos hc4).symm.trans h
    by_cases hc5 : (fX10_isCell u2) = 0
    · have h := (if_pos hc5).symm.trans h
      cases h
      exact sp_fr.refl _ _ _
    · have h := (if_neg hc5).symm.trans h
      obtain ⟨j6, hj6, h⟩ := Option.bind_eq_some_iff.mp h
      by_cases hc7 : (sp_I x3.2 (o1 + 1) j6) = 2
      · have h := (if_pos hc7).symm.trans h
        cases h
        exact sp_fr.refl _ _ _
      · have h := (if_neg hc7).symm.trans h
        obtain ⟨j8, hj8, h⟩ := Option.bind_eq_some_iff.mp h
        cases h
        exact sp_fr.refl _ _ _
  · have h := (if_neg hc4).symm.trans h
    cases h
    exact sp_fr.refl _ _ _
set_option maxRecDepth 100000 in
theorem frX6_passMinute_j66 {F : Nat} {o1 : Nat} {kb : Int32 → Int32 → sp_Mem → Option sp_Mem} {kx : sp_Mem → Option sp_Mem} {p : sp_Mem} (hb : ∀ (a3 : Int32) (a4 : Int32) (M : sp_Mem), kb a3 a4 M = some p → sp_fr [4, 3, (o1 + 3), (o1 + 2), (o1 + 10)] ([] : List (Nat × Nat)) M p) (hx : ∀  (M : sp_Mem), kx M = some p → sp_fr [4, 3, (o1 + 3), (o1 + 2), (o1 + 10)] ([] : List (Nat × Nat)) M p) (a3 : Int32) (a4 : Int32) (M : sp_Mem) (h : fX6_passMinute_j66 F o1 kb kx a3 a4 M = some p) : sp_fr [4, 3, (o1 + 3), (o1 + 2), (o1 + 10)] ([] : List (Nat × Nat)) M p := by
  unfold fX6_passMinute_j66 at h
  obtain ⟨j8, hj8, h⟩ := Option.bind_eq_some_iff.mp h
  obtain ⟨x9, hx9, h⟩ := Option.bind_eq_some_iff.mp h
  refine sp_fr.tr (sp_fr.mono (by first | decide | simp) (by first | decide | simp) (frX6_burnOf hx9)) ?_
  obtain ⟨j10, hj10, h⟩ := Option.bind_eq_some_iff.mp h
  obtain ⟨M11, hM11, h⟩ := sp_do_e h
  refine sp_fr.tr (sp_fr_I (Or.inl (by first | decide | simp)) hM11) ?_
  obtain ⟨j12, hj12, h⟩ := Option.bind_eq_some_iff.mp h
  by_cases hc13 : (sp_I M11 (o1 + 3) j12) = 0
  · have h := (if_pos hc13).symm.trans h
    obtain ⟨j17, hj17, h⟩ := Option.bind_eq_some_iff.mp h
    obtain ⟨M18, hM18, h⟩ := sp_do_e h
    refine sp_fr.tr (sp_fr_I (Or.inl (by first | decide | simp)) hM18) ?_
    exact hb _ _ _ h
  · have h := (if_neg hc13).symm.trans h
    obtain ⟨j14, hj14, h⟩ := Option.bind_eq_some_iff.mp h
    obtain ⟨j15, hj15, h⟩ := Option.bind_eq_some_iff.mp h
    obtain ⟨M16, hM16, h⟩ := sp_do_e h
    refine sp_fr.tr (sp_fr_I (Or.inl (by first | decide | simp)) hM16) ?_
    exact hb _ _ _ h
set_option maxRecDepth 100000 in
theorem frX6_passMinute_l3 {F : Nat} {o1 : Nat} {kx : sp_Mem → Option sp_Mem} {p : sp_Mem} (hx : ∀  (M : sp_Mem), kx M = some p → sp_fr [4, 3, (o1 + 3), (o1 + 2), (o1 + 10)] ([] : List (Nat × Nat)) M p) : ∀ (n : Nat) (a3 : Int32) (a4 : Int32) (M : sp_Mem), fX6_passMinute_l3 F o1 kx n a3 a4 M = some p → sp_fr [4, 3, (o1 + 3), (o1 + 2), (o1 + 10)] ([] : List (Nat × Nat)) M p := by
  intro n
  induction n with
  | zero =>
    intro a3 a4 M h
    rw [fX6_passMinute_l3] at h
    cases h
  | succ n ih =>
    intro a3 a4 M h
    rw [fX6_passMinute_l3] at h
    by_cases hc1 : a3 < a4
    · have h := (if_pos hc1).symm.trans h
      exact hx _ h
    · have h := (if_neg hc1).symm.trans h
      obtain ⟨v2, hv2, h⟩ := Option.bind_eq_some_iff.mp h
      by_cases hc3 : v2 = 0
      · have h := (if_pos hc3).symm.trans h
        exact ih _ _ _ h
      · have h := (if_neg hc3).symm.trans h
        obtain ⟨j4, hj4, h⟩ := Option.bind_eq_some_iff.mp h
        obtain ⟨x5, hx5, h⟩ := Option.bind_eq_some_iff.mp h
        refine sp_fr.tr (sp_fr.mono (by first | decide | simp) (by first | decide | simp) (frX6_wayOf hx5)) ?_
        obtain ⟨v6, hv6, h⟩ := Option.bind_eq_some_iff.mp h
        by_cases hc7 : (fX10_isCell v6) = 0
        · have h := (if_pos hc7).symm.trans h
          exact frX6_passMinute_j66 ih hx _ _ _ h
        · have h := (if_neg hc7).symm.trans h
          obtain ⟨x19, hx19, h⟩ := Option.bind_eq_some_iff.mp h
          refine sp_fr.tr (sp_fr.mono (by first | decide | simp) (by first | decide | simp) (frX6_isBarred hx19)) ?_
          by_cases hc20 : x19.1 = 0
          · have h := (if_pos hc20).symm.trans h
            obtain ⟨j21, hj21, h⟩ := Option.bind_eq_some_iff.mp h
            obtain ⟨M22, hM22, h⟩ := sp_do_e h
            refine sp_fr.tr (sp_fr_I (Or.inl (by first | decide | simp)) hM22) ?_
            exact frX6_passMinute_j66 ih hx _ _ _ h
          · have h := (if_neg hc20).symm.trans h
            exact frX6_passMinute_j66 ih hx _ _ _ h
set_option maxRecDepth 100000 in
theorem frX6_passMinute {F : Nat} {o1 : Nat} {p : sp_Mem} {M : sp_Mem} {a2 : Int32} {a3 : Int32} (h : fX6_passMinute F M o1 a2 a3 = some p) : sp_fr [4, 3, (o1 + 3), (o1 + 2), (o1 + 10)] ([] : List (Nat × Nat)) M p := by
  unfold fX6_passMinute at h
  refine frX6_passMinute_l3 (fun M23 h => ?_) F _ _ _ h
  obtain ⟨M24, hM24, h⟩ := sp_do_e h
  refine sp_fr.tr (sp_fr_I (Or.inl (by first | decide | simp)) hM24) ?_
  cases h
  exact sp_fr.refl _ _ _
set_option maxRecDepth 100000 in
theorem frX1_cellLater_l11 {F : Nat} {o1 : Nat} {kx : Int32 → sp_Mem → Option (Int32 × sp_Mem)} {p : (Int32 × sp_Mem)} (hx : ∀ (a2 : Int32) (M : sp_Mem), kx a2 M = some p → sp_fr [79, 80, 81, 82, 83, 84, 85, 86, 87, 88, 89, 4, 3] ([(78, 4), (78, 8), (78, 11), (78, 14), (78, 15)] : List (Nat × Nat)) M p.2) : ∀ (n : Nat) (a2 : Int32) (a3 : Int32) (a4 : Int32) (M : sp_Mem), fX1_cellLater_l11 F o1 kx n a2 a3 a4 M = some p → sp_fr [79, 80, 81, 82, 83, 84, 85, 86, 87, 88, 89, 4, 3] ([(78, 4), (78, 8), (78, 11), (78, 14), (78, 15)] : List (Nat × Nat)) M p.2 := by
  intro n
  induction n with
  | zero =>
    intro a2 a3 a4 M h
    rw [fX1_cellLater_l11] at h
    cases h
  | succ n ih =>
    intro a2 a3 a4 M h
    rw [fX1_cellLater_l11] at h
    by_cases hc2 : a3 ≤ a4
    · have h := (if_pos hc2).symm.trans h
      exact hx _ _ h
    · have h := (if_neg hc2).symm.trans h
      obtain ⟨M3, hM3, h⟩ := Option.bind_eq_some_iff.mp h
      refine sp_fr.tr (sp_fr.mono (by first | decide | simp) (by first | decide | simp) (frX6_passMinute hM3)) ?_
      exact ih _ _ _ _ h
set_option maxRecDepth 100000 in
theorem frX1_cellLater {F : Nat} {o1 : Nat} {p : (Int32 × sp_Mem)} {M : sp_Mem} {a2 : Int32} {a3 : Int32} (h : fX1_cellLater F M o1 a2 a3 = some p) : sp_fr [79, 80, 81, 82, 83, 84, 85, 86, 87, 88, 89, 4, 3] ([(78, 4), (78, 8), (78, 11), (78, 14), (78, 15)] : List (Nat × Nat)) M p.2 := by
  unfold fX1_cellLater at h
  obtain ⟨M1, hM1, h⟩ := Option.bind_eq_some_iff.mp h
  refine sp_fr.tr (sp_fr.mono (by first | decide | simp) (by first | decide | simp) (frX5_copyFrom hM1)) ?_
  refine frX1_cellLater_l11 (fun b5 M4 h => ?_) F _ _ _ _ h
  obtain ⟨j6, hj6, h⟩ := Option.bind_eq_some_iff.mp h
  cases h
  exact sp_fr.refl _ _ _
set_option maxRecDepth 100000 in
theorem frX1_firstOn_l11 {F : Nat} {o1 : Nat} {kx : sp_Mem → Option (Int32 × sp_Mem)} {p : (Int32 × sp_Mem)} (hx : ∀  (M : sp_Mem), kx M = some p → sp_fr [79, 80, 81, 82, 83, 84, 85, 86, 87, 88, 89, 4, 3] ([(78, 4), (78, 8), (78, 11), (78, 14), (78, 15)] : List (Nat × Nat)) M p.2) : ∀ (n : Nat) (a2 : Int32) (a3 : Int32) (a4 : Int32) (M : sp_Mem), fX1_firstOn_l11 F o1 kx n a2 a3 a4 M = some p → sp_fr [79, 80, 81, 82, 83, 84, 85, 86, 87, 88, 89, 4, 3] ([(78, 4), (78, 8), (78, 11), (78, 14), (78, 15)] : List (Nat × Nat)) M p.2 := by
  intro n
  induction n with
  | zero =>
    intro a2 a3 a4 M h
    rw [fX1_firstOn_l11] at h
    cases h
  | succ n ih =>
    intro a2 a3 a4 M h
    rw [fX1_firstOn_l11] at h
    by_cases hc2 : 60 < a4
    · have h := (if_pos hc2).symm.trans h
      exact hx _ h
    · have h := (if_neg hc2).symm.trans h
      obtain ⟨v3, hv3, h⟩ := Option.bind_eq_some_iff.mp h
      by_cases hc4 : v3 = (-1)
      · have h := (if_pos hc4).symm.trans h
        obtain ⟨M5, hM5, h⟩ := Option.bind_eq_some_iff.mp h
        refine sp_fr.tr (sp_fr.mono (by first | decide | simp) (by first | decide | simp) (frX6_passMinute hM5)) ?_
        exact ih _ _ _ _ h
      · have h := (if_neg hc4).symm.trans h
        cases h
        exact sp_fr.refl _ _ _
set_option maxRecDepth 100000 in
theorem frX1_firstOn {F : Nat} {o1 : Nat} {p : (Int32 × sp_Mem)} {M : sp_Mem} {a2 : Int32} {a3 : Int32} (h : fX1_firstOn F M o1 a2 a3 = some p) : sp_fr [79, 80, 81, 82, 83, 84, 85, 86, 87, 88, 89, 4, 3] ([(78, 4), (78, 8), (78, 11), (78, 14), (78, 15)] : List (Nat × Nat)) M p.2 := by
  unfold fX1_firstOn at h
  obtain ⟨M1, hM1, h⟩ := Option.bind_eq_some_iff.mp h
  refine sp_fr.tr (sp_fr.mono (by first | decide | simp) (by first | decide | simp) (frX5_copyFrom hM1)) ?_
  refine frX1_firstOn_l11 (fun M7 h => ?_) F _ _ _ _ h
  cases h
  exact sp_fr.refl _ _ _
set_option maxRecDepth 100000 in
theorem frX1_heatLater_l19 {F : Nat} {o1 : Nat} {kx : sp_Mem → Option (Int32 × sp_Mem)} {p : (Int32 × sp_Mem)} (hx : ∀  (M : sp_Mem), kx M = some p → sp_fr [79, 80, 81, 82, 83, 84, 85, 86, 87, 88, 89, 4, 3] ([(78, 4), (78, 8), (78, 11), (78, 14), (78, 15)] : List (Nat × Nat)) M p.2) : ∀ (n : Nat) (a3 : Int32) (a4 : Int32) (M : sp_Mem), fX1_heatLater_l19 F o1 kx n a3 a4 M = some p → sp_fr [79, 80, 81, 82, 83, 84, 85, 86, 87, 88, 89, 4, 3] ([(78, 4), (78, 8), (78, 11), (78, 14), (78, 15)] : List (Nat × Nat)) M p.2 := by
  intro n
  induction n with
  | zero =>
    intro a3 a4 M h
    rw [fX1_heatLater_l19] at h
    cases h
  | succ n ih =>
    intro a3 a4 M h
    rw [fX1_heatLater_l19] at h
    by_cases hc3 : a3 ≤ a4
    · have h := (if_pos hc3).symm.trans h
      exact hx _ h
    · have h := (if_neg hc3).symm.trans h
      obtain ⟨M4, hM4, h⟩ := Option.bind_eq_some_iff.mp h
      refine sp_fr.tr (sp_fr.mono (by first | decide | simp) (by first | decide | simp) (frX6_passMinute hM4)) ?_
      exact ih _ _ _ h
set_option maxRecDepth 100000 in
theorem frX1_heatLater {F : Nat} {o1 : Nat} {p : (Int32 × sp_Mem)} {M : sp_Mem} {a2 : Int32} {a3 : Int32} (h : fX1_heatLater F M o1 a2 a3 = some p) : sp_fr [79, 80, 81, 82, 83, 84, 85, 86, 87, 88, 89, 4, 3] ([(78, 4), (78, 8), (78, 11), (78, 14), (78, 15)] : List (Nat × Nat)) M p.2 := by
  unfold fX1_heatLater at h
  obtain ⟨M1, hM1, h⟩ := Option.bind_eq_some_iff.mp h
  refine sp_fr.tr (sp_fr.mono (by first | decide | simp) (by first | decide | simp) (frX5_copyFrom hM1)) ?_
  obtain ⟨M2, hM2, h⟩ := sp_do_e h
  refine sp_fr.tr (sp_fr_I (Or.inr (by first | decide | simp)) hM2) ?_
  refine frX1_heatLater_l19 (fun M5 h => ?_) F _ _ _ h
  obtain ⟨v6, hv6, h⟩ := Option.bind_eq_some_iff.mp h
  cases h
  exact sp_fr.refl _ _ _
set_option maxRecDepth 100000 in
theorem frX6_comes {F : Nat} {o1 : Nat} {p : (Int32 × sp_Mem)} {M : sp_Mem} {a2 : Int32} {a3 : Int32} {a4 : Int32} (h : fX6_comes F M o1 a2 a3 a4 = some p) : sp_fr [4, 3] ([] : List (Nat × Nat)) M p.2 := by
  unfold fX6_comes at h
  by_cases hc1 : (fX10_isCell a3) = 0
  · have h := (if_pos hc1).symm.trans h
    cases h
    exact sp_fr.refl _ _ _
  · have h := (if_neg hc1).symm.trans h
    obtain ⟨j2, hj2, h⟩ := Option.bind_eq_some_iff.mp h
    by_cases hc3 : (((sp_I M (o1 + 7) j2) >>> (a2 &&& 31)) &&& 1) = 1
    · have h := (if_pos hc3).symm.trans h
      obtain ⟨j4, hj4, h⟩ := Option.bind_eq_some_iff.mp h
      obtain ⟨v5, hv5, h⟩ := Option.bind_eq_some_iff.mp h
      obtain ⟨j6, hj6, h⟩ := Option.bind_eq_some_iff.mp h
      by_cases hc7 : (sp_I M (o1 + 6) j6) < v5
      · have h := (if_pos hc7).symm.trans h
        cases h
        exact sp_fr.refl _ _ _
      · have h := (if_neg hc7).symm.trans h
        obtain ⟨x8, hx8, h⟩ := Option.bind_eq_some_iff.mp h
        refine sp_fr.tr (sp_fr.mono (by first | decide | simp) (by first | decide | simp) (frX6_toldBy hx8)) ?_
        cases h
        exact sp_fr.refl _ _ _
    · have h := (if_neg hc3).symm.trans h
      cases h
      exact sp_fr.refl _ _ _
set_option maxRecDepth 100000 in
theorem frX1_findChain_l52 {F : Nat} {o1 : Nat} {kx : Int32 → Int32 → sp_Mem → Option (Int32 × sp_Mem)} {p : (Int32 × sp_Mem)} (hx : ∀ (a2 : Int32) (a3 : Int32) (M : sp_Mem), kx a2 a3 M = some p → sp_fr [92, 4, 3, 93] ([] : List (Nat × Nat)) M p.2) : ∀ (n : Nat) (a2 : Int32) (a3 : Int32) (a4 : Int32) (a5 : Int32) (a6 : Int32) (M : sp_Mem), fX1_findChain_l52 F o1 kx n a2 a3 a4 a5 a6 M = some p → sp_fr [92, 4, 3, 93] ([] : List (Nat × Nat)) M p.2 := by
  intro n
  induction n with
  | zero =>
    intro a2 a3 a4 a5 a6 M h
    rw [fX1_findChain_l52] at h
    cases h
  | succ n ih =>
    intro a2 a3 a4 a5 a6 M h
    rw [fX1_findChain_l52] at h
    by_cases hc5 : 5 ≤ a6
    · have h := (if_pos hc5).symm.trans h
      exact hx _ _ _ h
    · have h := (if_neg hc5).symm.trans h
      by_cases hc6 : a4 = 0
      · have h := (if_pos hc6).symm.trans h
        obtain ⟨j7, hj7, h⟩ := Option.bind_eq_some_iff.mp h
        obtain ⟨M8, hM8, h⟩ := sp_do_e h
        refine sp_fr.tr (sp_fr_I (Or.inl (by first | decide | simp)) hM8) ?_
        exact ih _ _ _ _ _ _ h
      · have h := (if_neg hc6).symm.trans h
        by_cases hc9 : (sp_I M o1 8) ≤ a6
        · have h := (if_pos hc9).symm.trans h
          obtain ⟨j10, hj10, h⟩ := Option.bind_eq_some_iff.mp h
          obtain ⟨M11, hM11, h⟩ := sp_do_e h
          refine sp_fr.tr (sp_fr_I (Or.inl (by first | decide | simp)) hM11) ?_
          exact ih _ _ _ _ _ _ h
        · have h := (if_neg hc9).symm.trans h
          obtain ⟨x12, hx12, h⟩ := Option.bind_eq_some_iff.mp h
          refine sp_fr.tr (sp_fr.mono (by first | decide | simp) (by first | decide | simp) (frX6_comes hx12)) ?_
          obtain ⟨j14, hj14, h⟩ := Option.bind_eq_some_iff.mp h
          obtain ⟨M15, hM15, h⟩ := sp_do_e h
          refine sp_fr.tr (sp_fr_I (Or.inl (by first | decide | simp)) hM15) ?_
          exact ih _ _ _ _ _ _ h
set_option maxRecDepth 100000 in
theorem frX1_findChain_j47 {F : Nat} {o1 : Nat} {kb : Int32 → Int32 → sp_Mem → Option (Int32 × sp_Mem)} {kx : sp_Mem → Option (Int32 × sp_Mem)} {p : (Int32 × sp_Mem)} (hb : ∀ (a2 : Int32) (a3 : Int32) (M : sp_Mem), kb a2 a3 M = some p → sp_fr [92, 4, 3, 93] ([] : List (Nat × Nat)) M p.2) (hx : ∀  (M : sp_Mem), kx M = some p → sp_fr [92, 4, 3, 93] ([] : List (Nat × Nat)) M p.2) (a2 : Int32) (a3 : Int32) (a4 : Int32) (s0 : Int32) (M : sp_Mem) (h : fX1_findChain_j47 F o1 kb kx a2 a3 a4 s0 M = some p) : sp_fr [92, 4, 3, 93] ([] : List (Nat × Nat)) M p.2 := by
  unfold fX1_findChain_j47 at h
  refine frX1_findChain_l52 (fun b17 b18 M16 h => ?_) F _ _ _ _ _ _ h
  obtain ⟨j19, hj19, h⟩ := Option.bind_eq_some_iff.mp h
  obtain ⟨M20, hM20, h⟩ := sp_do_e h
  refine sp_fr.tr (sp_fr_I (Or.inl (by first | decide | simp)) hM20) ?_
  exact hb _ _ _ h
set_option maxRecDepth 100000 in
theorem frX1_findChain_j25 {F : Nat} {o1 : Nat} {kb : Int32 → Int32 → sp_Mem → Option (Int32 × sp_Mem)} {kx : sp_Mem → Option (Int32 × sp_Mem)} {p : (Int32 × sp_Mem)} (hb : ∀ (a2 : Int32) (a3 : Int32) (M : sp_Mem), kb a2 a3 M = some p → sp_fr [92, 4, 3, 93] ([] : List (Nat × Nat)) M p.2) (hx : ∀  (M : sp_Mem), kx M = some p → sp_fr [92, 4, 3, 93] ([] : List (Nat × Nat)) M p.2) (a2 : Int32) (a3 : Int32) (s0 : Int32) (M : sp_Mem) (h : fX1_findChain_j25 F o1 kb kx a2 a3 s0 M = some p) : sp_fr [92, 4, 3, 93] ([] : List (Nat × Nat)) M p.2 := by
  unfold fX1_findChain_j25 at h
  by_cases hc3 : a3 = 5
  · have h := (if_pos hc3).symm.trans h
    obtain ⟨j21, hj21, h⟩ := Option.bind_eq_some_iff.mp h
    exact frX1_findChain_j47 hb hx _ _ _ _ _ h
  · have h := (if_neg hc3).symm.trans h
    obtain ⟨j4, hj4, h⟩ := Option.bind_eq_some_iff.mp h
    exact frX1_findChain_j47 hb hx _ _ _ _ _ h
set_option maxRecDepth 100000 in
theorem frX1_findChain_j20 {F : Nat} {o1 : Nat} {kb : Int32 → Int32 → sp_Mem → Option (Int32 × sp_Mem)} {kx : sp_Mem → Option (Int32 × sp_Mem)} {p : (Int32 × sp_Mem)} (hb : ∀ (a2 : Int32) (a3 : Int32) (M : sp_Mem), kb a2 a3 M = some p → sp_fr [92, 4, 3, 93] ([] : List (Nat × Nat)) M p.2) (hx : ∀  (M : sp_Mem), kx M = some p → sp_fr [92, 4, 3, 93] ([] : List (Nat × Nat)) M p.2) (a2 : Int32) (a3 : Int32) (M : sp_Mem) (h : fX1_findChain_j20 F o1 kb kx a2 a3 M = some p) : sp_fr [92, 4, 3, 93] ([] : List (Nat × Nat)) M p.2 := by
  unfold fX1_findChain_j20 at h
  exact frX1_findChain_j25 hb hx _ _ _ _ h
set_option maxRecDepth 100000 in
theorem frX1_findChain_l2 {F : Nat} {o1 : Nat} {kx : sp_Mem → Option (Int32 × sp_Mem)} {p : (Int32 × sp_Mem)} (hx : ∀  (M : sp_Mem), kx M = some p → sp_fr [92, 4, 3, 93] ([] : List (Nat × Nat)) M p.2) : ∀ (n : Nat) (a2 : Int32) (a3 : Int32) (M : sp_Mem), fX1_findChain_l2 F o1 kx n a2 a3 M = some p → sp_fr [92, 4, 3, 93] ([] : List (Nat × Nat)) M p.2 := by
  intro n
  induction n with
  | zero =>
    intro a2 a3 M h
    rw [fX1_findChain_l2] at h
    cases h
  | succ n ih =>
    intro a2 a3 M h
    rw [fX1_findChain_l2] at h
    by_cases hc1 : 5 < a3
    · have h := (if_pos hc1).symm.trans h
      exact hx _ h
    · have h := (if_neg hc1).symm.trans h
      by_cases hc2 : a3 = 5
      · have h := (if_pos hc2).symm.trans h
        exact frX1_findChain_j20 ih hx _ _ _ h
      · have h := (if_neg hc2).symm.trans h
        exact frX1_findChain_j25 ih hx _ _ _ _ h
set_option maxRecDepth 100000 in
theorem frX1_findChain_l133 {F : Nat} {o1 : Nat} {kx : Int32 → sp_Mem → Option (Int32 × sp_Mem)} {p : (Int32 × sp_Mem)} (hx : ∀ (a3 : Int32) (M : sp_Mem), kx a3 M = some p → sp_fr [92, 4, 3, 93] ([] : List (Nat × Nat)) M p.2) : ∀ (n : Nat) (a3 : Int32) (a4 : Int32) (M : sp_Mem), fX1_findChain_l133 F o1 kx n a3 a4 M = some p → sp_fr [92, 4, 3, 93] ([] : List (Nat × Nat)) M p.2 := by
  intro n
  induction n with
  | zero =>
    intro a3 a4 M h
    rw [fX1_findChain_l133] at h
    cases h
  | succ n ih =>
    intro a3 a4 M h
    rw [fX1_findChain_l133] at h
    by_cases hc25 : 5 < a4
    · have h := (if_pos hc25).symm.trans h
      exact hx _ _ h
    · have h := (if_neg hc25).symm.trans h
      obtain ⟨j26, hj26, h⟩ := Option.bind_eq_some_iff.mp h
      by_cases hc27 : (sp_I M 93 j26) = (-1)
      · have h := (if_pos hc27).symm.trans h
        obtain ⟨v28, hv28, h⟩ := Option.bind_eq_some_iff.mp h
        by_cases hc29 : v28 = (-1)
        · have h := (if_pos hc29).symm.trans h
          exact ih _ _ _ h
        · have h := (if_neg hc29).symm.trans h
          obtain ⟨j30, hj30, h⟩ := Option.bind_eq_some_iff.mp h
          obtain ⟨M31, hM31, h⟩ := sp_do_e h
          refine sp_fr.tr (sp_fr_I (Or.inl (by first | decide | simp)) hM31) ?_
          exact ih _ _ _ h
      · have h := (if_neg hc27).symm.trans h
        exact ih _ _ _ h
set_option maxRecDepth 100000 in
theorem frX1_findChain_l125 {F : Nat} {o1 : Nat} {kx : sp_Mem → Option (Int32 × sp_Mem)} {p : (Int32 × sp_Mem)} (hx : ∀  (M : sp_Mem), kx M = some p → sp_fr [92, 4, 3, 93] ([] : List (Nat × Nat)) M p.2) : ∀ (n : Nat) (a3 : Int32) (M : sp_Mem), fX1_findChain_l125 F o1 kx n a3 M = some p → sp_fr [92, 4, 3, 93] ([] : List (Nat × Nat)) M p.2 := by
  intro n
  induction n with
  | zero =>
    intro a3 M h
    rw [fX1_findChain_l125] at h
    cases h
  | succ n ih =>
    intro a3 M h
    rw [fX1_findChain_l125] at h
    by_cases hc24 : 5 < a3
    · have h := (if_pos hc24).symm.trans h
      exact hx _ h
    · have h := (if_neg hc24).symm.trans h
      refine frX1_findChain_l133 (fun b33 M32 h => ?_) F _ _ _ h
      exact ih _ _ h
set_option maxRecDepth 100000 in
theorem frX1_findChain {F : Nat} {o1 : Nat} {p : (Int32 × sp_Mem)} {M : sp_Mem} {a2 : Int32} (h : fX1_findChain F M o1 a2 = some p) : sp_fr [92, 4, 3, 93] ([] : List (Nat × Nat)) M p.2 := by
  unfold fX1_findChain at h
  refine frX1_findChain_l2 (fun M23 h => ?_) F _ _ _ h
  refine frX1_findChain_l125 (fun M34 h => ?_) F _ _ h
  cases h
  exact sp_fr.refl _ _ _
