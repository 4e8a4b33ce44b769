/-- nothing changes but the rows A and the fields B -/
def sp_fr (A : List Nat) (B : List (Nat × Nat)) (M M' : sp_Mem) : Prop := (∀ i j, i ∉ A → (i, j) ∉ B → sp_I M' i j = sp_I M i j) ∧ (∀ i j, i ∉ A → (i, j) ∉ B → sp_L M' i j = sp_L M i j) ∧ (∀ i j, i ∉ A → (i, j) ∉ B → sp_P M' i j = sp_P M i j) ∧ (∀ i, sp_T M' i = sp_T M i) ∧ (∀ i, sp_N M' i = sp_N M i) ∧ sp_n M' = sp_n M
theorem sp_fr.refl (A : List Nat) (B : List (Nat × Nat)) (M : sp_Mem) : sp_fr A B M M := ⟨fun _ _ _ _ => rfl, fun _ _ _ _ => rfl, fun _ _ _ _ => rfl, fun _ => rfl, fun _ => rfl, rfl⟩
theorem sp_fr.tr {A : List Nat} {B : List (Nat × Nat)} {M M1 M2 : sp_Mem} (h : sp_fr A B M M1) (k : sp_fr A B M1 M2) : sp_fr A B M M2 := ⟨fun i j a b => (k.1 i j a b).trans (h.1 i j a b), fun i j a b => (k.2.1 i j a b).trans (h.2.1 i j a b), fun i j a b => (k.2.2.1 i j a b).trans (h.2.2.1 i j a b), fun i => (k.2.2.2.1 i).trans (h.2.2.2.1 i), fun i => (k.2.2.2.2.1 i).trans (h.2.2.2.2.1 i), k.2.2.2.2.2.trans h.2.2.2.2.2⟩
theorem sp_fr.mono {A A' : List Nat} {B B' : List (Nat × Nat)} {M M1 : sp_Mem} (hA : ∀ i ∈ A, i ∈ A') (hB : ∀ i ∈ B, i ∈ B') (h : sp_fr A B M M1) : sp_fr A' B' M M1 := ⟨fun i j a b => h.1 i j (fun q => a (hA i q)) (fun q => b (hB _ q)), fun i j a b => h.2.1 i j (fun q => a (hA i q)) (fun q => b (hB _ q)), fun i j a b => h.2.2.1 i j (fun q => a (hA i q)) (fun q => b (hB _ q)), h.2.2.2⟩
theorem sp_fr_I {A : List Nat} {B : List (Nat × Nat)} {M M1 : sp_Mem} {o j : Nat} {x : Int32} (h : o ∈ A ∨ (o, j) ∈ B) (hM : sp_setI M o j x = M1) : sp_fr A B M M1 := by
  subst hM
  refine ⟨fun i k a b => ?_, fun _ _ _ _ => rfl, fun _ _ _ _ => rfl, fun _ => rfl, fun _ => rfl, rfl⟩
  rw [sp_I_setI, if_neg]
  rintro ⟨rfl, rfl⟩
  exact h.elim a b
theorem sp_fr_L {A : List Nat} {B : List (Nat × Nat)} {M M1 : sp_Mem} {o j : Nat} {x : Int64} (h : o ∈ A ∨ (o, j) ∈ B) (hM : sp_setL M o j x = M1) : sp_fr A B M M1 := by
  subst hM
  refine ⟨fun _ _ _ _ => rfl, fun i k a b => ?_, fun _ _ _ _ => rfl, fun _ => rfl, fun _ => rfl, rfl⟩
  rw [sp_L_setL, if_neg]
  rintro ⟨rfl, rfl⟩
  exact h.elim a b
theorem sp_fr_P {A : List Nat} {B : List (Nat × Nat)} {M M1 : sp_Mem} {o j : Nat} {x : Option Nat} (h : o ∈ A ∨ (o, j) ∈ B) (hM : sp_setP M o j x = M1) : sp_fr A B M M1 := by
  subst hM
  refine ⟨fun _ _ _ _ => rfl, fun _ _ _ _ => rfl, fun i k a b => ?_, fun _ => rfl, fun _ => rfl, rfl⟩
  rw [sp_P_setP, if_neg]
  rintro ⟨rfl, rfl⟩
  exact h.elim a b
theorem sp_fr_C {A : List Nat} {B : List (Nat × Nat)} {M M1 : sp_Mem} {a b s d n : Nat} (h : b ∈ A) (hM : sp_cpy M a b s d n = M1) : sp_fr A B M M1 := by
  subst hM
  refine ⟨fun i k p q => ?_, fun _ _ _ _ => rfl, fun _ _ _ _ => rfl, fun _ => rfl, fun _ => rfl, rfl⟩
  unfold sp_cpy
  rw [sp_I_rowI, if_neg]
  rintro rfl
  exact p h
set_option maxRecDepth 100000 in
theorem frX11_tell_j10 {p : (Int32 × sp_Mem)} (a1 : Int32) (s0 : Int32) (M : sp_Mem) (h : fX11_tell_j10 a1 s0 M = some p) : sp_fr [104] ([(103, 1)] : List (Nat × Nat)) M p.2 := by
  unfold fX11_tell_j10 at h
  obtain ⟨M2, hM2, h⟩ := sp_do_e h
  refine sp_fr.tr (sp_fr_I (Or.inr (by first | decide | simp)) hM2) ?_
  by_cases hc3 : 0 ≤ a1
  · have h := (if_pos hc3).symm.trans h
    cases h
    exact sp_fr.refl _ _ _
  · have h := (if_neg hc3).symm.trans h
    obtain ⟨j4, hj4, h⟩ := Option.bind_eq_some_iff.mp h
    obtain ⟨j5, hj5, h⟩ := Option.bind_eq_some_iff.mp h
    obtain ⟨M6, hM6, h⟩ := sp_do_e h
    refine sp_fr.tr (sp_fr_I (Or.inl (by first | decide | simp)) hM6) ?_
    cases h
    exact sp_fr.refl _ _ _
set_option maxRecDepth 100000 in
theorem frX11_tell {p : (Int32 × sp_Mem)} {M : sp_Mem} {a1 : Int32} (h : fX11_tell M a1 = some p) : sp_fr [104] ([(103, 1)] : List (Nat × Nat)) M p.2 := by
  unfold fX11_tell at h
  exact frX11_tell_j10 _ _ _ h
set_option maxRecDepth 100000 in
theorem frX11_change {p : (Int32 × sp_Mem)} {M : sp_Mem} {a1 : Int32} {a2 : Int32} (h : fX11_change M a1 a2 = some p) : sp_fr [105] ([(103, 1)] : List (Nat × Nat)) M p.2 := by
  unfold fX11_change at h
  obtain ⟨j1, hj1, h⟩ := Option.bind_eq_some_iff.mp h
  obtain ⟨u2, hu2, h⟩ := sp_do_e h
  obtain ⟨j3, hj3, h⟩ := Option.bind_eq_some_iff.mp h
  obtain ⟨M4, hM4, h⟩ := sp_do_e h
  refine sp_fr.tr (sp_fr_I (Or.inl (by first | decide | simp)) hM4) ?_
  obtain ⟨M5, hM5, h⟩ := sp_do_e h
  refine sp_fr.tr (sp_fr_I (Or.inr (by first | decide | simp)) hM5) ?_
  cases h
  exact sp_fr.refl _ _ _
set_option maxRecDepth 100000 in
theorem frX11_settled {p : (Int32 × sp_Mem)} {M : sp_Mem} {a1 : Int32} (h : fX11_settled M a1 = some p) : sp_fr [104] ([(103, 8), (103, 1)] : List (Nat × Nat)) M p.2 := by
  unfold fX11_settled at h
  by_cases hc1 : 0 ≤ a1
  · have h := (if_pos hc1).symm.trans h
    obtain ⟨M2, hM2, h⟩ := sp_do_e h
    refine sp_fr.tr (sp_fr_I (Or.inr (by first | decide | simp)) hM2) ?_
    obtain ⟨x3, hx3, h⟩ := Option.bind_eq_some_iff.mp h
    refine sp_fr.tr (sp_fr.mono (by first | decide | simp) (by first | decide | simp) (frX11_tell hx3)) ?_
    cases h
    exact sp_fr.refl _ _ _
  · have h := (if_neg hc1).symm.trans h
    obtain ⟨M4, hM4, h⟩ := sp_do_e h
    refine sp_fr.tr (sp_fr_I (Or.inr (by first | decide | simp)) hM4) ?_
    obtain ⟨x5, hx5, h⟩ := Option.bind_eq_some_iff.mp h
    refine sp_fr.tr (sp_fr.mono (by first | decide | simp) (by first | decide | simp) (frX11_tell hx5)) ?_
    cases h
    exact sp_fr.refl _ _ _
set_option maxRecDepth 100000 in
theorem frX11_keepAll_l2 {F : Nat} {kx : sp_Mem → Option sp_Mem} {p : sp_Mem} (hx : ∀  (M : sp_Mem), kx M = some p → sp_fr [108] ([] : List (Nat × Nat)) M p) : ∀ (n : Nat) (a1 : Int32) (a2 : Int32) (M : sp_Mem), fX11_keepAll_l2 F kx n a1 a2 M = some p → sp_fr [108] ([] : List (Nat × Nat)) M p := by
  intro n
  induction n with
  | zero =>
    intro a1 a2 M h
    rw [fX11_keepAll_l2] at h
    cases h
  | succ n ih =>
    intro a1 a2 M h
    rw [fX11_keepAll_l2] at h
    by_cases hc1 : 46 ≤ a2
    · have h := (if_pos hc1).symm.trans h
      exact hx _ h
    · have h := (if_neg hc1).symm.trans h
      obtain ⟨j2, hj2, h⟩ := Option.bind_eq_some_iff.mp h
      obtain ⟨j3, hj3, h⟩ := Option.bind_eq_some_iff.mp h
      obtain ⟨M4, hM4, h⟩ := sp_do_e h
      refine sp_fr.tr (sp_fr_I (Or.inl (by first | decide | simp)) hM4) ?_
      exact ih _ _ _ h
set_option maxRecDepth 100000 in
theorem frX11_keepAll {F : Nat} {p : sp_Mem} {M : sp_Mem} {a1 : Int32} (h : fX11_keepAll F M a1 = some p) : sp_fr [108] ([] : List (Nat × Nat)) M p := by
  unfold fX11_keepAll at h
  refine frX11_keepAll_l2 (fun M5 h => ?_) F _ _ _ h
  cases h
  exact sp_fr.refl _ _ _
set_option maxRecDepth 100000 in
theorem frX11_putBack_l2 {F : Nat} {kx : sp_Mem → Option sp_Mem} {p : sp_Mem} (hx : ∀  (M : sp_Mem), kx M = some p → sp_fr [105] ([] : List (Nat × Nat)) M p) : ∀ (n : Nat) (a1 : Int32) (a2 : Int32) (M : sp_Mem), fX11_putBack_l2 F kx n a1 a2 M = some p → sp_fr [105] ([] : List (Nat × Nat)) M p := by
  intro n
  induction n with
  | zero =>
    intro a1 a2 M h
    rw [fX11_putBack_l2] at h
    cases h
  | succ n ih =>
    intro a1 a2 M h
    rw [fX11_putBack_l2] at h
    by_cases hc1 : 46 ≤ a2
    · have h := (if_pos hc1).symm.trans h
      exact hx _ h
    · have h := (if_neg hc1).symm.trans h
      obtain ⟨j2, hj2, h⟩ := Option.bind_eq_some_iff.mp h
      obtain ⟨j3, hj3, h⟩ := Option.bind_eq_some_iff.mp h
      obtain ⟨M4, hM4, h⟩ := sp_do_e h
      refine sp_fr.tr (sp_fr_I (Or.inl (by first | decide | simp)) hM4) ?_
      exact ih _ _ _ h
set_option maxRecDepth 100000 in
theorem frX11_putBack {F : Nat} {p : sp_Mem} {M : sp_Mem} {a1 : Int32} (h : fX11_putBack F M a1 = some p) : sp_fr [105] ([] : List (Nat × Nat)) M p := by
  unfold fX11_putBack at h
  refine frX11_putBack_l2 (fun M5 h => ?_) F _ _ _ h
  cases h
  exact sp_fr.refl _ _ _
set_option maxRecDepth 100000 in
theorem frX11_remember_j77 {F : Nat} {p : sp_Mem} (a1 : Int32) (M : sp_Mem) (h : fX11_remember_j77 F a1 M = some p) : sp_fr [108, 109] ([(103, 8)] : List (Nat × Nat)) M p := by
  unfold fX11_remember_j77 at h
  obtain ⟨M2, hM2, h⟩ := Option.bind_eq_some_iff.mp h
  refine sp_fr.tr (sp_fr.mono (by first | decide | simp) (by first | decide | simp) (frX11_keepAll hM2)) ?_
  obtain ⟨j3, hj3, h⟩ := Option.bind_eq_some_iff.mp h
  obtain ⟨M4, hM4, h⟩ := sp_do_e h
  refine sp_fr.tr (sp_fr_I (Or.inl (by first | decide | simp)) hM4) ?_
  obtain ⟨M5, hM5, h⟩ := sp_do_e h
  refine sp_fr.tr (sp_fr_I (Or.inr (by first | decide | simp)) hM5) ?_
  cases h
  exact sp_fr.refl _ _ _
set_option maxRecDepth 100000 in
theorem frX11_remember_l11 {F : Nat} {kx : Int32 → sp_Mem → Option sp_Mem} {p : sp_Mem} (hx : ∀ (a1 : Int32) (M : sp_Mem), kx a1 M = some p → sp_fr [108, 109] ([(103, 8)] : List (Nat × Nat)) M p) : ∀ (n : Nat) (a1 : Int32) (a2 : Int32) (M : sp_Mem), fX11_remember_l11 F kx n a1 a2 M = some p → sp_fr [108, 109] ([(103, 8)] : List (Nat × Nat)) M p := by
  intro n
  induction n with
  | zero =>
    intro a1 a2 M h
    rw [fX11_remember_l11] at h
    cases h
  | succ n ih =>
    intro a1 a2 M h
    rw [fX11_remember_l11] at h
    by_cases hc6 : 690 ≤ a2
    · have h := (if_pos hc6).symm.trans h
      exact hx _ _ h
    · have h := (if_neg hc6).symm.trans h
      obtain ⟨j7, hj7, h⟩ := Option.bind_eq_some_iff.mp h
      obtain ⟨j8, hj8, h⟩ := Option.bind_eq_some_iff.mp h
      obtain ⟨M9, hM9, h⟩ := sp_do_e h
      refine sp_fr.tr (sp_fr_I (Or.inl (by first | decide | simp)) hM9) ?_
      exact ih _ _ _ h
set_option maxRecDepth 100000 in
theorem frX11_remember_l41 {F : Nat} {kx : Int32 → sp_Mem → Option sp_Mem} {p : sp_Mem} (hx : ∀ (a1 : Int32) (M : sp_Mem), kx a1 M = some p → sp_fr [108, 109] ([(103, 8)] : List (Nat × Nat)) M p) : ∀ (n : Nat) (a1 : Int32) (a2 : Int32) (M : sp_Mem), fX11_remember_l41 F kx n a1 a2 M = some p → sp_fr [108, 109] ([(103, 8)] : List (Nat × Nat)) M p := by
  intro n
  induction n with
  | zero =>
    intro a1 a2 M h
    rw [fX11_remember_l41] at h
    cases h
  | succ n ih =>
    intro a1 a2 M h
    rw [fX11_remember_l41] at h
    by_cases hc12 : 15 ≤ a2
    · have h := (if_pos hc12).symm.trans h
      exact hx _ _ h
    · have h := (if_neg hc12).symm.trans h
      obtain ⟨j13, hj13, h⟩ := Option.bind_eq_some_iff.mp h
      obtain ⟨j14, hj14, h⟩ := Option.bind_eq_some_iff.mp h
      obtain ⟨M15, hM15, h⟩ := sp_do_e h
      refine sp_fr.tr (sp_fr_I (Or.inl (by first | decide | simp)) hM15) ?_
      exact ih _ _ _ h
set_option maxRecDepth 100000 in
theorem frX11_remember {F : Nat} {p : sp_Mem} {M : sp_Mem} {a1 : Int32} (h : fX11_remember F M a1 = some p) : sp_fr [108, 109] ([(103, 8)] : List (Nat × Nat)) M p := by
  unfold fX11_remember at h
  by_cases hc1 : (sp_I M 103 8) = 16
  · have h := (if_pos hc1).symm.trans h
    refine frX11_remember_l11 (fun b11 M10 h => ?_) F _ _ _ h
    refine frX11_remember_l41 (fun b17 M16 h => ?_) F _ _ _ h
    obtain ⟨M18, hM18, h⟩ := sp_do_e h
    refine sp_fr.tr (sp_fr_I (Or.inr (by first | decide | simp)) hM18) ?_
    exact frX11_remember_j77 _ _ h
  · have h := (if_neg hc1).symm.trans h
    exact frX11_remember_j77 _ _ h
set_option maxRecDepth 100000 in
theorem frX11_undo {F : Nat} {p : (Int32 × sp_Mem)} {M : sp_Mem} (h : fX11_undo F M = some p) : sp_fr [105, 104] ([(103, 0), (103, 8), (103, 1)] : List (Nat × Nat)) M p.2 := by
  unfold fX11_undo at h
  obtain ⟨M1, hM1, h⟩ := sp_do_e h
  refine sp_fr.tr (sp_fr_I (Or.inr (by first | decide | simp)) hM1) ?_
  by_cases hc2 : (sp_I M1 103 8) = 0
  · have h := (if_pos hc2).symm.trans h
    obtain ⟨x7, hx7, h⟩ := Option.bind_eq_some_iff.mp h
    refine sp_fr.tr (sp_fr.mono (by first | decide | simp) (by first | decide | simp) (frX11_tell hx7)) ?_
    cases h
    exact sp_fr.refl _ _ _
  · have h := (if_neg hc2).symm.trans h
    obtain ⟨M3, hM3, h⟩ := sp_do_e h
    refine sp_fr.tr (sp_fr_I (Or.inr (by first | decide | simp)) hM3) ?_
    obtain ⟨M4, hM4, h⟩ := Option.bind_eq_some_iff.mp h
    refine sp_fr.tr (sp_fr.mono (by first | decide | simp) (by first | decide | simp) (frX11_putBack hM4)) ?_
    obtain ⟨j5, hj5, h⟩ := Option.bind_eq_some_iff.mp h
    obtain ⟨x6, hx6, h⟩ := Option.bind_eq_some_iff.mp h
    refine sp_fr.tr (sp_fr.mono (by first | decide | simp) (by first | decide | simp) (frX11_tell hx6)) ?_
    cases h
    exact sp_fr.refl _ _ _
set_option maxRecDepth 100000 in
theorem frX11_image_l23 {F : Nat} {kx : Int32 → sp_Mem → Option (Int32 × sp_Mem)} {p : (Int32 × sp_Mem)} (hx : ∀ (a1 : Int32) (M : sp_Mem), kx a1 M = some p → sp_fr [106, 107, 104] ([(103, 0), (103, 1)] : List (Nat × Nat)) M p.2) : ∀ (n : Nat) (a1 : Int32) (a2 : Int32) (M : sp_Mem), fX11_image_l23 F kx n a1 a2 M = some p → sp_fr [106, 107, 104] ([(103, 0), (103, 1)] : List (Nat × Nat)) M p.2 := by
  intro n
  induction n with
  | zero =>
    intro a1 a2 M h
    rw [fX11_image_l23] at h
    cases h
  | succ n ih =>
    intro a1 a2 M h
    rw [fX11_image_l23] at h
    by_cases hc3 : 5480 ≤ a2
    · have h := (if_pos hc3).symm.trans h
      exact hx _ _ h
    · have h := (if_neg hc3).symm.trans h
      obtain ⟨j4, hj4, h⟩ := Option.bind_eq_some_iff.mp h
      obtain ⟨j5, hj5, h⟩ := Option.bind_eq_some_iff.mp h
      obtain ⟨M6, hM6, h⟩ := sp_do_e h
      refine sp_fr.tr (sp_fr_I (Or.inl (by first | decide | simp)) hM6) ?_
      exact ih _ _ _ h
set_option maxRecDepth 100000 in
theorem frX11_image {F : Nat} {p : (Int32 × sp_Mem)} {M : sp_Mem} {a1 : Int32} (h : fX11_image F M a1 = some p) : sp_fr [106, 107, 104] ([(103, 0), (103, 1)] : List (Nat × Nat)) M p.2 := by
  unfold fX11_image at h
  obtain ⟨M1, hM1, h⟩ := sp_do_e h
  refine sp_fr.tr (sp_fr_I (Or.inr (by first | decide | simp)) hM1) ?_
  by_cases hc2 : (fX11_in (Int32.toInt64 a1) 0 1) = 0
  · have h := (if_pos hc2).symm.trans h
    obtain ⟨x12, hx12, h⟩ := Option.bind_eq_some_iff.mp h
    refine sp_fr.tr (sp_fr.mono (by first | decide | simp) (by first | decide | simp) (frX11_tell hx12)) ?_
    cases h
    exact sp_fr.refl _ _ _
  · have h := (if_neg hc2).symm.trans h
    refine frX11_image_l23 (fun b8 M7 h => ?_) F _ _ _ h
    obtain ⟨j9, hj9, h⟩ := Option.bind_eq_some_iff.mp h
    obtain ⟨M10, hM10, h⟩ := sp_do_e h
    refine sp_fr.tr (sp_fr_I (Or.inl (by first | decide | simp)) hM10) ?_
    obtain ⟨x11, hx11, h⟩ := Option.bind_eq_some_iff.mp h
    refine sp_fr.tr (sp_fr.mono (by first | decide | simp) (by first | decide | simp) (frX11_tell hx11)) ?_
    cases h
    exact sp_fr.refl _ _ _
set_option maxRecDepth 100000 in
theorem frX11_back_l39 {F : Nat} {kx : sp_Mem → Option (Int32 × sp_Mem)} {p : (Int32 × sp_Mem)} (hx : ∀  (M : sp_Mem), kx M = some p → sp_fr [105, 104] ([(103, 0), (103, 8), (103, 1)] : List (Nat × Nat)) M p.2) : ∀ (n : Nat) (a1 : Int32) (a2 : Int32) (M : sp_Mem), fX11_back_l39 F kx n a1 a2 M = some p → sp_fr [105, 104] ([(103, 0), (103, 8), (103, 1)] : List (Nat × Nat)) M p.2 := by
  intro n
  induction n with
  | zero =>
    intro a1 a2 M h
    rw [fX11_back_l39] at h
    cases h
  | succ n ih =>
    intro a1 a2 M h
    rw [fX11_back_l39] at h
    by_cases hc5 : 5480 ≤ a2
    · have h := (if_pos hc5).symm.trans h
      exact hx _ h
    · have h := (if_neg hc5).symm.trans h
      obtain ⟨j6, hj6, h⟩ := Option.bind_eq_some_iff.mp h
      obtain ⟨j7, hj7, h⟩ := Option.bind_eq_some_iff.mp h
      obtain ⟨M8, hM8, h⟩ := sp_do_e h
      refine sp_fr.tr (sp_fr_I (Or.inl (by first | decide | simp)) hM8) ?_
      exact ih _ _ _ h
set_option maxRecDepth 100000 in
theorem frX11_back {F : Nat} {p : (Int32 × sp_Mem)} {M : sp_Mem} {a1 : Int32} (h : fX11_back F M a1 = some p) : sp_fr [105, 104] ([(103, 0), (103, 8), (103, 1)] : List (Nat × Nat)) M p.2 := by
  unfold fX11_back at h
  obtain ⟨M1, hM1, h⟩ := sp_do_e h
  refine sp_fr.tr (sp_fr_I (Or.inr (by first | decide | simp)) hM1) ?_
  by_cases hc2 : (fX11_in (Int32.toInt64 a1) 0 1) = 0
  · have h := (if_pos hc2).symm.trans h
    obtain ⟨x12, hx12, h⟩ := Option.bind_eq_some_iff.mp h
    refine sp_fr.tr (sp_fr.mono (by first | decide | simp) (by first | decide | simp) (frX11_tell hx12)) ?_
    cases h
    exact sp_fr.refl _ _ _
  · have h := (if_neg hc2).symm.trans h
    obtain ⟨j3, hj3, h⟩ := Option.bind_eq_some_iff.mp h
    by_cases hc4 : (sp_I M1 107 j3) = 0
    · have h := (if_pos hc4).symm.trans h
      obtain ⟨x11, hx11, h⟩ := Option.bind_eq_some_iff.mp h
      refine sp_fr.tr (sp_fr.mono (by first | decide | simp) (by first | decide | simp) (frX11_tell hx11)) ?_
      cases h
      exact sp_fr.refl _ _ _
    · have h := (if_neg hc4).symm.trans h
      refine frX11_back_l39 (fun M9 h => ?_) F _ _ _ h
      obtain ⟨x10, hx10, h⟩ := Option.bind_eq_some_iff.mp h
      refine sp_fr.tr (sp_fr.mono (by first | decide | simp) (by first | decide | simp) (frX11_settled hx10)) ?_
      cases h
      exact sp_fr.refl _ _ _
set_option maxRecDepth 100000 in
theorem frX11_spark {p : (Int32 × sp_Mem)} {M : sp_Mem} {a1 : Int32} {a2 : Int32} {a3 : Int32} (h : fX11_spark M a1 a2 a3 = some p) : sp_fr [104, 105] ([(103, 0), (103, 1), (103, 8)] : List (Nat × Nat)) M p.2 := by
  unfold fX11_spark at h
  obtain ⟨M1, hM1, h⟩ := sp_do_e h
  refine sp_fr.tr (sp_fr_I (Or.inr (by first | decide | simp)) hM1) ?_
  by_cases hc2 : (fX11_isCell a1) = 0
  · have h := (if_pos hc2).symm.trans h
    obtain ⟨x3, hx3, h⟩ := Option.bind_eq_some_iff.mp h
    refine sp_fr.tr (sp_fr.mono (by first | decide | simp) (by first | decide | simp) (frX11_tell hx3)) ?_
    cases h
    exact sp_fr.refl _ _ _
  · have h := (if_neg hc2).symm.trans h
    by_cases hc4 : (fX11_in (Int32.toInt64 a2) 1 9) = 0
    · have h := (if_pos hc4).symm.trans h
      obtain ⟨x5, hx5, h⟩ := Option.bind_eq_some_iff.mp h
      refine sp_fr.tr (sp_fr.mono (by first | decide | simp) (by first | decide | simp) (frX11_tell hx5)) ?_
      cases h
      exact sp_fr.refl _ _ _
    · have h := (if_neg hc4).symm.trans h
      by_cases hc6 : (fX11_in (Int32.toInt64 a3) 0 99) = 0
      · have h := (if_pos hc6).symm.trans h
        obtain ⟨x21, hx21, h⟩ := Option.bind_eq_some_iff.mp h
        refine sp_fr.tr (sp_fr.mono (by first | decide | simp) (by first | decide | simp) (frX11_tell hx21)) ?_
        cases h
        exact sp_fr.refl _ _ _
      · have h := (if_neg hc6).symm.trans h
        obtain ⟨j7, hj7, h⟩ := Option.bind_eq_some_iff.mp h
        by_cases hc8 : (sp_I M1 105 j7) = 3
        · have h := (if_pos hc8).symm.trans h
          obtain ⟨x20, hx20, h⟩ := Option.bind_eq_some_iff.mp h
          refine sp_fr.tr (sp_fr.mono (by first | decide | simp) (by first | decide | simp) (frX11_tell hx20)) ?_
          cases h
          exact sp_fr.refl _ _ _
        · have h := (if_neg hc8).symm.trans h
          obtain ⟨u9, hu9, h⟩ := sp_do_e h
          by_cases hc10 : u9 = 6
          · have h := (if_pos hc10).symm.trans h
            obtain ⟨x19, hx19, h⟩ := Option.bind_eq_some_iff.mp h
            refine sp_fr.tr (sp_fr.mono (by first | decide | simp) (by first | decide | simp) (frX11_tell hx19)) ?_
            cases h
            exact sp_fr.refl _ _ _
          · have h := (if_neg hc10).symm.trans h
            obtain ⟨j11, hj11, h⟩ := Option.bind_eq_some_iff.mp h
            obtain ⟨M12, hM12, h⟩ := sp_do_e h
            refine sp_fr.tr (sp_fr_I (Or.inl (by first | decide | simp)) hM12) ?_
            obtain ⟨j13, hj13, h⟩ := Option.bind_eq_some_iff.mp h
            obtain ⟨M14, hM14, h⟩ := sp_do_e h
            refine sp_fr.tr (sp_fr_I (Or.inl (by first | decide | simp)) hM14) ?_
            obtain ⟨j15, hj15, h⟩ := Option.bind_eq_some_iff.mp h
            obtain ⟨M16, hM16, h⟩ := sp_do_e h
            refine sp_fr.tr (sp_fr_I (Or.inl (by first | decide | simp)) hM16) ?_
            obtain ⟨M17, hM17, h⟩ := sp_do_e h
            refine sp_fr.tr (sp_fr_I (Or.inl (by first | decide | simp)) hM17) ?_
            obtain ⟨x18, hx18, h⟩ := Option.bind_eq_some_iff.mp h
            refine sp_fr.tr (sp_fr.mono (by first | decide | simp) (by first | decide | simp) (frX11_settled hx18)) ?_
            cases h
            exact sp_fr.refl _ _ _
set_option maxRecDepth 100000 in
theorem frX11_reckon_j72 {p : (Int64 × sp_Mem)} (a2 : Int64) (a4 : Int64) (s0 : Int32) (M : sp_Mem) (h : fX11_reckon_j72 a2 a4 s0 M = some p) : sp_fr [] ([(103, 38)] : List (Nat × Nat)) M p.2 := by
  unfold fX11_reckon_j72 at h
  obtain ⟨M6, hM6, h⟩ := sp_do_e h
  refine sp_fr.tr (sp_fr_I (Or.inr (by first | decide | simp)) hM6) ?_
  obtain ⟨_, hz7, h⟩ := Option.bind_eq_some_iff.mp h
  by_cases hc8 : (sp_I M6 103 38) = 0
  · have h := (if_pos hc8).symm.trans h
    by_cases hz9 : a4 = 0
    · rw [if_pos hz9] at h; cases h
    have h := (if_neg hz9).symm.trans h
    cases h
    exact sp_fr.refl _ _ _
  · have h := (if_neg hc8).symm.trans h
    cases h
    exact sp_fr.refl _ _ _
set_option maxRecDepth 100000 in
theorem frX11_reckon_j104 {p : (Int64 × sp_Mem)} (a2 : Int64) (a4 : Int64) (s0 : Int32) (M : sp_Mem) (h : fX11_reckon_j104 a2 a4 s0 M = some p) : sp_fr [] ([(103, 38)] : List (Nat × Nat)) M p.2 := by
  unfold fX11_reckon_j104 at h
  obtain ⟨M12, hM12, h⟩ := sp_do_e h
  refine sp_fr.tr (sp_fr_I (Or.inr (by first | decide | simp)) hM12) ?_
  obtain ⟨_, hz13, h⟩ := Option.bind_eq_some_iff.mp h
  by_cases hc14 : (sp_I M12 103 38) = 0
  · have h := (if_pos hc14).symm.trans h
    by_cases hz15 : a4 = 0
    · rw [if_pos hz15] at h; cases h
    have h := (if_neg hz15).symm.trans h
    cases h
    exact sp_fr.refl _ _ _
  · have h := (if_neg hc14).symm.trans h
    cases h
    exact sp_fr.refl _ _ _
set_option maxRecDepth 100000 in
theorem frX11_reckon {p : (Int64 × sp_Mem)} {M : sp_Mem} {a1 : Int32} {a2 : Int64} {a4 : Int64} (h : fX11_reckon M a1 a2 a4 = some p) : sp_fr [] ([(103, 38)] : List (Nat × Nat)) M p.2 := by
  unfold fX11_reckon at h
  by_cases hc1 : a1 = 20
  · have h := (if_pos hc1).symm.trans h
    cases h
    exact sp_fr.refl _ _ _
  have h := (if_neg hc1).symm.trans h
  by_cases hc2 : a1 = 21
  · have h := (if_pos hc2).symm.trans h
    cases h
    exact sp_fr.refl _ _ _
  have h := (if_neg hc2).symm.trans h
  by_cases hc3 : a1 = 22
  · have h := (if_pos hc3).symm.trans h
    cases h
    exact sp_fr.refl _ _ _
  have h := (if_neg hc3).symm.trans h
  by_cases hc4 : a1 = 23
  · have h := (if_pos hc4).symm.trans h
    exact frX11_reckon_j72 _ _ _ _ h
  have h := (if_neg hc4).symm.trans h
  by_cases hc10 : a1 = 24
  · have h := (if_pos hc10).symm.trans h
    exact frX11_reckon_j104 _ _ _ _ h
  have h := (if_neg hc10).symm.trans h
  by_cases hc16 : a1 = 25
  · have h := (if_pos hc16).symm.trans h
    by_cases hc17 : a4 ≤ a2
    · have h := (if_pos hc17).symm.trans h
      cases h
      exact sp_fr.refl _ _ _
    · have h := (if_neg hc17).symm.trans h
      cases h
      exact sp_fr.refl _ _ _
  have h := (if_neg hc16).symm.trans h
  by_cases hc18 : a1 = 26
  · have h := (if_pos hc18).symm.trans h
    by_cases hc19 : a2 ≤ a4
    · have h := (if_pos hc19).symm.trans h
      cases h
      exact sp_fr.refl _ _ _
    · have h := (if_neg hc19).symm.trans h
      cases h
      exact sp_fr.refl _ _ _
  have h := (if_neg hc18).symm.trans h
  by_cases hc20 : a2 = a4
  · have h := (if_pos hc20).symm.trans h
    cases h
    exact sp_fr.refl _ _ _
  · have h := (if_neg hc20).symm.trans h
    cases h
    exact sp_fr.refl _ _ _
set_option maxRecDepth 100000 in
theorem frX11_reckonAll_j95 {F : Nat} {kb : Int32 → Int32 → Int32 → sp_Mem → Option sp_Mem} {kx : Int32 → sp_Mem → Option sp_Mem} {p : sp_Mem} (hb : ∀ (a2 : Int32) (a3 : Int32) (a4 : Int32) (M : sp_Mem), kb a2 a3 a4 M = some p → sp_fr [123] ([(103, 38), (103, 39)] : List (Nat × Nat)) M p) (hx : ∀ (a3 : Int32) (M : sp_Mem), kx a3 M = some p → sp_fr [123] ([(103, 38), (103, 39)] : List (Nat × Nat)) M p) (a2 : Int32) (a3 : Int32) (a4 : Int32) (a5 : Int32) (s0 : Int32) (M : sp_Mem) (h : fX11_reckonAll_j95 F kb kx a2 a3 a4 a5 s0 M = some p) : sp_fr [123] ([(103, 38), (103, 39)] : List (Nat × Nat)) M p := by
  unfold fX11_reckonAll_j95 at h
  by_cases hc8 : 20 ≤ a5
  · have h := (if_pos hc8).symm.trans h
    by_cases hc9 : 28 ≤ a5
    · have h := (if_pos hc9).symm.trans h
      by_cases hc10 : a5 = 28
      · have h := (if_pos hc10).symm.trans h
        obtain ⟨j15, hj15, h⟩ := Option.bind_eq_some_iff.mp h
        obtain ⟨j16, hj16, h⟩ := Option.bind_eq_some_iff.mp h
        obtain ⟨M17, hM17, h⟩ := sp_do_e h
        refine sp_fr.tr (sp_fr_L (Or.inl (by first | decide | simp)) hM17) ?_
        exact hb _ _ _ _ h
      · have h := (if_neg hc10).symm.trans h
        obtain ⟨j11, hj11, h⟩ := Option.bind_eq_some_iff.mp h
        by_cases hc12 : a5 = 29
        · have h := (if_pos hc12).symm.trans h
          by_cases hc14 : (sp_L M 123 j11) = 0
          · have h := (if_pos hc14).symm.trans h
            exact hb _ _ _ _ h
          · have h := (if_neg hc14).symm.trans h
            exact hb _ _ _ _ h
        · have h := (if_neg hc12).symm.trans h
          by_cases hc13 : (sp_L M 123 j11) = 1
          · have h := (if_pos hc13).symm.trans h
            exact hb _ _ _ _ h
          · have h := (if_neg hc13).symm.trans h
            exact hb _ _ _ _ h
    · have h := (if_neg hc9).symm.trans h
      obtain ⟨j18, hj18, h⟩ := Option.bind_eq_some_iff.mp h
      obtain ⟨j19, hj19, h⟩ := Option.bind_eq_some_iff.mp h
      obtain ⟨x20, hx20, h⟩ := Option.bind_eq_some_iff.mp h
      refine sp_fr.tr (sp_fr.mono (by first | decide | simp) (by first | decide | simp) (frX11_reckon hx20)) ?_
      obtain ⟨j21, hj21, h⟩ := Option.bind_eq_some_iff.mp h
      obtain ⟨M22, hM22, h⟩ := sp_do_e h
      refine sp_fr.tr (sp_fr_L (Or.inl (by first | decide | simp)) hM22) ?_
      by_cases hc23 : (sp_I M22 103 38) = 0
      · have h := (if_pos hc23).symm.trans h
        obtain ⟨j25, hj25, h⟩ := Option.bind_eq_some_iff.mp h
        obtain ⟨M27, hM27, h⟩ := sp_do_e h
        refine sp_fr.tr (sp_fr_I (Or.inr (by first | decide | simp)) hM27) ?_
        exact hb _ _ _ _ h
      · have h := (if_neg hc23).symm.trans h
        obtain ⟨M24, hM24, h⟩ := sp_do_e h
        refine sp_fr.tr (sp_fr_I (Or.inr (by first | decide | simp)) hM24) ?_
        exact hb _ _ _ _ h
  · have h := (if_neg hc8).symm.trans h
    by_cases hc28 : a5 = 0
    · have h := (if_pos hc28).symm.trans h
      obtain ⟨j48, hj48, h⟩ := Option.bind_eq_some_iff.mp h
      obtain ⟨M49, hM49, h⟩ := sp_do_e h
      refine sp_fr.tr (sp_fr_L (Or.inl (by first | decide | simp)) hM49) ?_
      exact hb _ _ _ _ h
    · have h := (if_neg hc28).symm.trans h
      by_cases hc29 : (sp_I M 103 20) = 0
      · have h := (if_pos hc29).symm.trans h
        obtain ⟨j45, hj45, h⟩ := Option.bind_eq_some_iff.mp h
        obtain ⟨j46, hj46, h⟩ := Option.bind_eq_some_iff.mp h
        obtain ⟨M47, hM47, h⟩ := sp_do_e h
        refine sp_fr.tr (sp_fr_L (Or.inl (by first | decide | simp)) hM47) ?_
        exact hb _ _ _ _ h
      · have h := (if_neg hc29).symm.trans h
        by_cases hc30 : 5 ≤ a5
        · have h := (if_pos hc30).symm.trans h
          obtain ⟨v31, hv31, h⟩ := Option.bind_eq_some_iff.mp h
          by_cases hc32 : v31 = 0
          · have h := (if_pos hc32).symm.trans h
            obtain ⟨j40, hj40, h⟩ := Option.bind_eq_some_iff.mp h
            obtain ⟨M41, hM41, h⟩ := sp_do_e h
            refine sp_fr.tr (sp_fr_L (Or.inl (by first | decide | simp)) hM41) ?_
            exact hb _ _ _ _ h
          · have h := (if_neg hc32).symm.trans h
            by_cases hc33 : a5 = 5
            · have h := (if_pos hc33).symm.trans h
              obtain ⟨j37, hj37, h⟩ := Option.bind_eq_some_iff.mp h
              obtain ⟨j38, hj38, h⟩ := Option.bind_eq_some_iff.mp h
              obtain ⟨M39, hM39, h⟩ := sp_do_e h
              refine sp_fr.tr (sp_fr_L (Or.inl (by first | decide | simp)) hM39) ?_
              exact hb _ _ _ _ h
            · have h := (if_neg hc33).symm.trans h
              obtain ⟨j34, hj34, h⟩ := Option.bind_eq_some_iff.mp h
              obtain ⟨j35, hj35, h⟩ := Option.bind_eq_some_iff.mp h
              obtain ⟨M36, hM36, h⟩ := sp_do_e h
              refine sp_fr.tr (sp_fr_L (Or.inl (by first | decide | simp)) hM36) ?_
              exact hb _ _ _ _ h
        · have h := (if_neg hc30).symm.trans h
          obtain ⟨j42, hj42, h⟩ := Option.bind_eq_some_iff.mp h
          obtain ⟨j43, hj43, h⟩ := Option.bind_eq_some_iff.mp h
          obtain ⟨M44, hM44, h⟩ := sp_do_e h
          refine sp_fr.tr (sp_fr_L (Or.inl (by first | decide | simp)) hM44) ?_
          exact hb _ _ _ _ h
set_option maxRecDepth 100000 in
theorem frX11_reckonAll_j57 {F : Nat} {kb : Int32 → Int32 → Int32 → sp_Mem → Option sp_Mem} {kx : Int32 → sp_Mem → Option sp_Mem} {p : sp_Mem} (hb : ∀ (a2 : Int32) (a3 : Int32) (a4 : Int32) (M : sp_Mem), kb a2 a3 a4 M = some p → sp_fr [123] ([(103, 38), (103, 39)] : List (Nat × Nat)) M p) (hx : ∀ (a3 : Int32) (M : sp_Mem), kx a3 M = some p → sp_fr [123] ([(103, 38), (103, 39)] : List (Nat × Nat)) M p) (a2 : Int32) (a3 : Int32) (a4 : Int32) (s0 : Int32) (M : sp_Mem) (h : fX11_reckonAll_j57 F kb kx a2 a3 a4 s0 M = some p) : sp_fr [123] ([(103, 38), (103, 39)] : List (Nat × Nat)) M p := by
  unfold fX11_reckonAll_j57 at h
  by_cases hc6 : (sp_I M 103 20) = 0
  · have h := (if_pos hc6).symm.trans h
    obtain ⟨j7, hj7, h⟩ := Option.bind_eq_some_iff.mp h
    exact frX11_reckonAll_j95 hb hx _ _ _ _ _ _ h
  · have h := (if_neg hc6).symm.trans h
    obtain ⟨j50, hj50, h⟩ := Option.bind_eq_some_iff.mp h
    exact frX11_reckonAll_j95 hb hx _ _ _ _ _ _ h
set_option maxRecDepth 100000 in
theorem frX11_reckonAll_l10 {F : Nat} {kx : Int32 → sp_Mem → Option sp_Mem} {p : sp_Mem} (hx : ∀ (a3 : Int32) (M : sp_Mem), kx a3 M = some p → sp_fr [123] ([(103, 38), (103, 39)] : List (Nat × Nat)) M p) : ∀ (n : Nat) (a2 : Int32) (a3 : Int32) (a4 : Int32) (M : sp_Mem), fX11_reckonAll_l10 F kx n a2 a3 a4 M = some p → sp_fr [123] ([(103, 38), (103, 39)] : List (Nat × Nat)) M p := by
  intro n
  induction n with
  | zero =>
    intro a2 a3 a4 M h
    rw [fX11_reckonAll_l10] at h
    cases h
  | succ n ih =>
    intro a2 a3 a4 M h
    rw [fX11_reckonAll_l10] at h
    by_cases hc2 : a2 ≤ a4
    · have h := (if_pos hc2).symm.trans h
      exact hx _ _ h
    · have h := (if_neg hc2).symm.trans h
      by_cases hc3 : (sp_I M 103 38) = 0
      · have h := (if_pos hc3).symm.trans h
        by_cases hc4 : (sp_I M 103 20) = 0
        · have h := (if_pos hc4).symm.trans h
          obtain ⟨j5, hj5, h⟩ := Option.bind_eq_some_iff.mp h
          exact frX11_reckonAll_j57 ih hx _ _ _ _ _ h
        · have h := (if_neg hc4).symm.trans h
          obtain ⟨j51, hj51, h⟩ := Option.bind_eq_some_iff.mp h
          exact frX11_reckonAll_j57 ih hx _ _ _ _ _ h
      · have h := (if_neg hc3).symm.trans h
        exact hx _ _ h
set_option maxRecDepth 100000 in
theorem frX11_reckonAll_j351 {F : Nat} {p : sp_Mem} (a3 : Int32) (M : sp_Mem) (h : fX11_reckonAll_j351 F a3 M = some p) : sp_fr [123] ([(103, 38), (103, 39)] : List (Nat × Nat)) M p := by
  unfold fX11_reckonAll_j351 at h
  by_cases hc54 : a3 ≤ 0
  · have h := (if_pos hc54).symm.trans h
    obtain ⟨M55, hM55, h⟩ := sp_do_e h
    refine sp_fr.tr (sp_fr_L (Or.inr (by first | decide | simp)) hM55) ?_
    cases h
    exact sp_fr.refl _ _ _
  · have h := (if_neg hc54).symm.trans h
    obtain ⟨M56, hM56, h⟩ := sp_do_e h
    refine sp_fr.tr (sp_fr_L (Or.inr (by first | decide | simp)) hM56) ?_
    cases h
    exact sp_fr.refl _ _ _
set_option maxRecDepth 100000 in
theorem frX11_reckonAll {F : Nat} {p : sp_Mem} {M : sp_Mem} {a1 : Int32} {a2 : Int32} (h : fX11_reckonAll F M a1 a2 = some p) : sp_fr [123] ([(103, 38), (103, 39)] : List (Nat × Nat)) M p := by
  unfold fX11_reckonAll at h
  obtain ⟨M1, hM1, h⟩ := sp_do_e h
  refine sp_fr.tr (sp_fr_I (Or.inr (by first | decide | simp)) hM1) ?_
  refine frX11_reckonAll_l10 (fun b53 M52 h => ?_) F _ _ _ _ h
  exact frX11_reckonAll_j351 _ _ h
set_option maxRecDepth 100000 in
theorem frX11_isSo_j59 {F : Nat} {p : (Int32 × sp_Mem)} (a1 : Int32) (M : sp_Mem) (h : fX11_isSo_j59 F a1 M = some p) : sp_fr [123] ([(103, 38), (103, 39), (103, 40)] : List (Nat × Nat)) M p.2 := by
  unfold fX11_isSo_j59 at h
  obtain ⟨j4, hj4, h⟩ := Option.bind_eq_some_iff.mp h
  by_cases hc5 : 2 ≤ (sp_I M 105 j4)
  · have h := (if_pos hc5).symm.trans h
    cases h
    exact sp_fr.refl _ _ _
  · have h := (if_neg hc5).symm.trans h
    obtain ⟨j6, hj6, h⟩ := Option.bind_eq_some_iff.mp h
    obtain ⟨j7, hj7, h⟩ := Option.bind_eq_some_iff.mp h
    obtain ⟨M8, hM8, h⟩ := Option.bind_eq_some_iff.mp h
    refine sp_fr.tr (sp_fr.mono (by first | decide | simp) (by first | decide | simp) (frX11_reckonAll hM8)) ?_
    obtain ⟨M9, hM9, h⟩ := sp_do_e h
    refine sp_fr.tr (sp_fr_L (Or.inr (by first | decide | simp)) hM9) ?_
    cases h
    exact sp_fr.refl _ _ _
set_option maxRecDepth 100000 in
theorem frX11_isSo {F : Nat} {p : (Int32 × sp_Mem)} {M : sp_Mem} {a1 : Int32} (h : fX11_isSo F M a1 = some p) : sp_fr [123] ([(103, 38), (103, 39), (103, 40)] : List (Nat × Nat)) M p.2 := by
  unfold fX11_isSo at h
  obtain ⟨j1, hj1, h⟩ := Option.bind_eq_some_iff.mp h
  obtain ⟨j2, hj2, h⟩ := Option.bind_eq_some_iff.mp h
  by_cases hc3 : (sp_I M 105 j2) ≤ (sp_I M 105 j1)
  · have h := (if_pos hc3).symm.trans h
    exact frX11_isSo_j59 _ _ h
  · have h := (if_neg hc3).symm.trans h
    obtain ⟨j11, hj11, h⟩ := Option.bind_eq_some_iff.mp h
    obtain ⟨j12, hj12, h⟩ := Option.bind_eq_some_iff.mp h
    obtain ⟨M13, hM13, h⟩ := Option.bind_eq_some_iff.mp h
    refine sp_fr.tr (sp_fr.mono (by first | decide | simp) (by first | decide | simp) (frX11_reckonAll hM13)) ?_
    by_cases hc14 : (sp_I M13 103 38) = 0
    · have h := (if_pos hc14).symm.trans h
      by_cases hc15 : (sp_L M13 103 39) = 0
      · have h := (if_pos hc15).symm.trans h
        cases h
        exact sp_fr.refl _ _ _
      · have h := (if_neg hc15).symm.trans h
        exact frX11_isSo_j59 _ _ h
    · have h := (if_neg hc14).symm.trans h
      cases h
      exact sp_fr.refl _ _ _
set_option maxRecDepth 100000 in
theorem frX11_tells_l172 {F : Nat} {kx : Int64 → sp_Mem → Option (Int64 × sp_Mem)} {p : (Int64 × sp_Mem)} (hx : ∀ (a7 : Int64) (M : sp_Mem), kx a7 M = some p → sp_fr [121, 123] ([(103, 34), (103, 38), (103, 39), (103, 40)] : List (Nat × Nat)) M p.2) : ∀ (n : Nat) (a1 : Int32) (a7 : Int64) (a9 : Int32) (M : sp_Mem), fX11_tells_l172 F kx n a1 a7 a9 M = some p → sp_fr [121, 123] ([(103, 34), (103, 38), (103, 39), (103, 40)] : List (Nat × Nat)) M p.2 := by
  intro n
  induction n with
  | zero =>
    intro a1 a7 a9 M h
    rw [fX11_tells_l172] at h
    cases h
  | succ n ih =>
    intro a1 a7 a9 M h
    rw [fX11_tells_l172] at h
    obtain ⟨j17, hj17, h⟩ := Option.bind_eq_some_iff.mp h
    by_cases hc18 : (sp_I M 105 j17) ≤ a9
    · have h := (if_pos hc18).symm.trans h
      exact hx _ _ h
    · have h := (if_neg hc18).symm.trans h
      obtain ⟨u19, hu19, h⟩ := sp_do_e h
      obtain ⟨j20, hj20, h⟩ := Option.bind_eq_some_iff.mp h
      by_cases hc21 : (sp_I M 105 j20) = a1
      · have h := (if_pos hc21).symm.trans h
        obtain ⟨x22, hx22, h⟩ := Option.bind_eq_some_iff.mp h
        refine sp_fr.tr (sp_fr.mono (by first | decide | simp) (by first | decide | simp) (frX11_isSo hx22)) ?_
        by_cases hc23 : x22.1 = 0
        · have h := (if_pos hc23).symm.trans h
          exact ih _ _ _ _ h
        · have h := (if_neg hc23).symm.trans h
          by_cases hc24 : 2 ≤ a1
          · have h := (if_pos hc24).symm.trans h
            exact ih _ _ _ _ h
          · have h := (if_neg hc24).symm.trans h
            obtain ⟨u25, hu25, h⟩ := sp_do_e h
            exact ih _ _ _ _ h
      · have h := (if_neg hc21).symm.trans h
        exact ih _ _ _ _ h
set_option maxRecDepth 100000 in
theorem frX11_tells {F : Nat} {p : (Int64 × sp_Mem)} {M : sp_Mem} {a1 : Int32} {a2 : Int32} {a3 : Int32} {a4 : Int32} {a5 : Int64} (h : fX11_tells F M a1 a2 a3 a4 a5 = some p) : sp_fr [121, 123] ([(103, 34), (103, 38), (103, 39), (103, 40)] : List (Nat × Nat)) M p.2 := by
  unfold fX11_tells at h
  by_cases hc1 : (sp_I M 105 4) = (-1)
  · have h := (if_pos hc1).symm.trans h
    cases h
    exact sp_fr.refl _ _ _
  · have h := (if_neg hc1).symm.trans h
    obtain ⟨M2, hM2, h⟩ := sp_do_e h
    refine sp_fr.tr (sp_fr_I (Or.inr (by first | decide | simp)) hM2) ?_
    obtain ⟨M3, hM3, h⟩ := sp_do_e h
    refine sp_fr.tr (sp_fr_L (Or.inl (by first | decide | simp)) hM3) ?_
    obtain ⟨j4, hj4, h⟩ := Option.bind_eq_some_iff.mp h
    obtain ⟨M5, hM5, h⟩ := sp_do_e h
    refine sp_fr.tr (sp_fr_L (Or.inl (by first | decide | simp)) hM5) ?_
    obtain ⟨j6, hj6, h⟩ := Option.bind_eq_some_iff.mp h
    obtain ⟨M7, hM7, h⟩ := sp_do_e h
    refine sp_fr.tr (sp_fr_L (Or.inl (by first | decide | simp)) hM7) ?_
    obtain ⟨M8, hM8, h⟩ := sp_do_e h
    refine sp_fr.tr (sp_fr_L (Or.inl (by first | decide | simp)) hM8) ?_
    obtain ⟨M9, hM9, h⟩ := sp_do_e h
    refine sp_fr.tr (sp_fr_L (Or.inl (by first | decide | simp)) hM9) ?_
    obtain ⟨j10, hj10, h⟩ := Option.bind_eq_some_iff.mp h
    obtain ⟨M11, hM11, h⟩ := sp_do_e h
    refine sp_fr.tr (sp_fr_L (Or.inl (by first | decide | simp)) hM11) ?_
    obtain ⟨v12, hv12, h⟩ := Option.bind_eq_some_iff.mp h
    obtain ⟨M13, hM13, h⟩ := sp_do_e h
    refine sp_fr.tr (sp_fr_L (Or.inl (by first | decide | simp)) hM13) ?_
    obtain ⟨M14, hM14, h⟩ := sp_do_e h
    refine sp_fr.tr (sp_fr_L (Or.inl (by first | decide | simp)) hM14) ?_
    obtain ⟨M15, hM15, h⟩ := sp_do_e h
    refine sp_fr.tr (sp_fr_L (Or.inl (by first | decide | simp)) hM15) ?_
    obtain ⟨M16, hM16, h⟩ := sp_do_e h
    refine sp_fr.tr (sp_fr_L (Or.inl (by first | decide | simp)) hM16) ?_
    refine frX11_tells_l172 (fun b27 M26 h => ?_) F _ _ _ _ h
    cases h
    exact sp_fr.refl _ _ _
set_option maxRecDepth 100000 in
theorem frX11_goesOf {F : Nat} {p : (Int32 × sp_Mem)} {M : sp_Mem} {a1 : Int32} (h : fX11_goesOf F M a1 = some p) : sp_fr [121, 123] ([(103, 34), (103, 38), (103, 39), (103, 40)] : List (Nat × Nat)) M p.2 := by
  unfold fX11_goesOf at h
  obtain ⟨j1, hj1, h⟩ := Option.bind_eq_some_iff.mp h
  obtain ⟨x2, hx2, h⟩ := Option.bind_eq_some_iff.mp h
  refine sp_fr.tr (sp_fr.mono (by first | decide | simp) (by first | decide | simp) (frX11_tells hx2)) ?_
  cases h
  exact sp_fr.refl _ _ _
set_option maxRecDepth 100000 in
theorem frX11_burnsOf {F : Nat} {p : (Int32 × sp_Mem)} {M : sp_Mem} {a1 : Int32} (h : fX11_burnsOf F M a1 = some p) : sp_fr [121, 123] ([(103, 34), (103, 38), (103, 39), (103, 40)] : List (Nat × Nat)) M p.2 := by
  unfold fX11_burnsOf at h
  obtain ⟨j1, hj1, h⟩ := Option.bind_eq_some_iff.mp h
  obtain ⟨j2, hj2, h⟩ := Option.bind_eq_some_iff.mp h
  obtain ⟨u3, hu3, h⟩ := sp_do_e h
  obtain ⟨j4, hj4, h⟩ := Option.bind_eq_some_iff.mp h
  by_cases hc5 : u3 = 2
  · have h := (if_pos hc5).symm.trans h
    obtain ⟨x9, hx9, h⟩ := Option.bind_eq_some_iff.mp h
    refine sp_fr.tr (sp_fr.mono (by first | decide | simp) (by first | decide | simp) (frX11_tells hx9)) ?_
    cases h
    exact sp_fr.refl _ _ _
  · have h := (if_neg hc5).symm.trans h
    by_cases hc6 : u3 = 1
    · have h := (if_pos hc6).symm.trans h
      obtain ⟨x8, hx8, h⟩ := Option.bind_eq_some_iff.mp h
      refine sp_fr.tr (sp_fr.mono (by first | decide | simp) (by first | decide | simp) (frX11_tells hx8)) ?_
      cases h
      exact sp_fr.refl _ _ _
    · have h := (if_neg hc6).symm.trans h
      obtain ⟨x7, hx7, h⟩ := Option.bind_eq_some_iff.mp h
      refine sp_fr.tr (sp_fr.mono (by first | decide | simp) (by first | decide | simp) (frX11_tells hx7)) ?_
      cases h
      exact sp_fr.refl _ _ _
set_option maxRecDepth 100000 in
theorem frX11_of {F : Nat} {p : (Int32 × sp_Mem)} {M : sp_Mem} {a1 : Int32} {a2 : Int32} (h : fX11_of F M a1 a2 = some p) : sp_fr [121, 123] ([(103, 0), (103, 34), (103, 38), (103, 39), (103, 40)] : List (Nat × Nat)) M p.2 := by
  unfold fX11_of at h
  obtain ⟨M1, hM1, h⟩ := sp_do_e h
  refine sp_fr.tr (sp_fr_I (Or.inr (by first | decide | simp)) hM1) ?_
  obtain ⟨v2, hv2, h⟩ := Option.bind_eq_some_iff.mp h
  by_cases hc3 : v2 = 0
  · have h := (if_pos hc3).symm.trans h
    cases h
    exact sp_fr.refl _ _ _
  · have h := (if_neg hc3).symm.trans h
    by_cases hc4 : a2 = 0
    · have h := (if_pos hc4).symm.trans h
      obtain ⟨j5, hj5, h⟩ := Option.bind_eq_some_iff.mp h
      cases h
      exact sp_fr.refl _ _ _
    have h := (if_neg hc4).symm.trans h
    by_cases hc6 : a2 = 1
    · have h := (if_pos hc6).symm.trans h
      obtain ⟨j7, hj7, h⟩ := Option.bind_eq_some_iff.mp h
      cases h
      exact sp_fr.refl _ _ _
    have h := (if_neg hc6).symm.trans h
    by_cases hc8 : a2 = 2
    · have h := (if_pos hc8).symm.trans h
      obtain ⟨j9, hj9, h⟩ := Option.bind_eq_some_iff.mp h
      cases h
      exact sp_fr.refl _ _ _
    have h := (if_neg hc8).symm.trans h
    by_cases hc10 : a2 = 3
    · have h := (if_pos hc10).symm.trans h
      obtain ⟨v11, hv11, h⟩ := Option.bind_eq_some_iff.mp h
      by_cases hc12 : v11 = 0
      · have h := (if_pos hc12).symm.trans h
        cases h
        exact sp_fr.refl _ _ _
      · have h := (if_neg hc12).symm.trans h
        obtain ⟨x13, hx13, h⟩ := Option.bind_eq_some_iff.mp h
        refine sp_fr.tr (sp_fr.mono (by first | decide | simp) (by first | decide | simp) (frX11_goesOf hx13)) ?_
        cases h
        exact sp_fr.refl _ _ _
    have h := (if_neg hc10).symm.trans h
    by_cases hc14 : a2 = 4
    · have h := (if_pos hc14).symm.trans h
      obtain ⟨v15, hv15, h⟩ := Option.bind_eq_some_iff.mp h
      by_cases hc16 : v15 = 0
      · have h := (if_pos hc16).symm.trans h
        cases h
        exact sp_fr.refl _ _ _
      · have h := (if_neg hc16).symm.trans h
        obtain ⟨x17, hx17, h⟩ := Option.bind_eq_some_iff.mp h
        refine sp_fr.tr (sp_fr.mono (by first | decide | simp) (by first | decide | simp) (frX11_burnsOf hx17)) ?_
        cases h
        exact sp_fr.refl _ _ _
    have h := (if_neg hc14).symm.trans h
    by_cases hc18 : a2 = 5
    · have h := (if_pos hc18).symm.trans h
      obtain ⟨v19, hv19, h⟩ := Option.bind_eq_some_iff.mp h
      cases h
      exact sp_fr.refl _ _ _
    have h := (if_neg hc18).symm.trans h
    cases h
    exact sp_fr.refl _ _ _
set_option maxRecDepth 100000 in
theorem frX11_person {p : (Int32 × sp_Mem)} {M : sp_Mem} {a1 : Int32} {a2 : Int32} (h : fX11_person M a1 a2 = some p) : sp_fr [104, 105] ([(103, 0), (103, 1), (103, 8)] : List (Nat × Nat)) M p.2 := by
  unfold fX11_person at h
  obtain ⟨M1, hM1, h⟩ := sp_do_e h
  refine sp_fr.tr (sp_fr_I (Or.inr (by first | decide | simp)) hM1) ?_
  by_cases hc2 : (fX11_isCell a1) = 0
  · have h := (if_pos hc2).symm.trans h
    obtain ⟨x3, hx3, h⟩ := Option.bind_eq_some_iff.mp h
    refine sp_fr.tr (sp_fr.mono (by first | decide | simp) (by first | decide | simp) (frX11_tell hx3)) ?_
    cases h
    exact sp_fr.refl _ _ _
  · have h := (if_neg hc2).symm.trans h
    by_cases hc4 : (fX11_in (Int32.toInt64 a2) 0 8) = 0
    · have h := (if_pos hc4).symm.trans h
      obtain ⟨x19, hx19, h⟩ := Option.bind_eq_some_iff.mp h
      refine sp_fr.tr (sp_fr.mono (by first | decide | simp) (by first | decide | simp) (frX11_tell hx19)) ?_
      cases h
      exact sp_fr.refl _ _ _
    · have h := (if_neg hc4).symm.trans h
      obtain ⟨j5, hj5, h⟩ := Option.bind_eq_some_iff.mp h
      by_cases hc6 : (sp_I M1 105 j5) = 3
      · have h := (if_pos hc6).symm.trans h
        obtain ⟨x18, hx18, h⟩ := Option.bind_eq_some_iff.mp h
        refine sp_fr.tr (sp_fr.mono (by first | decide | simp) (by first | decide | simp) (frX11_tell hx18)) ?_
        cases h
        exact sp_fr.refl _ _ _
      · have h := (if_neg hc6).symm.trans h
        obtain ⟨u7, hu7, h⟩ := sp_do_e h
        by_cases hc8 : u7 = 5
        · have h := (if_pos hc8).symm.trans h
          obtain ⟨x17, hx17, h⟩ := Option.bind_eq_some_iff.mp h
          refine sp_fr.tr (sp_fr.mono (by first | decide | simp) (by first | decide | simp) (frX11_tell hx17)) ?_
          cases h
          exact sp_fr.refl _ _ _
        · have h := (if_neg hc8).symm.trans h
          obtain ⟨j9, hj9, h⟩ := Option.bind_eq_some_iff.mp h
          obtain ⟨M10, hM10, h⟩ := sp_do_e h
          refine sp_fr.tr (sp_fr_I (Or.inl (by first | decide | simp)) hM10) ?_
          obtain ⟨j11, hj11, h⟩ := Option.bind_eq_some_iff.mp h
          obtain ⟨M12, hM12, h⟩ := sp_do_e h
          refine sp_fr.tr (sp_fr_I (Or.inl (by first | decide | simp)) hM12) ?_
          obtain ⟨j13, hj13, h⟩ := Option.bind_eq_some_iff.mp h
          obtain ⟨M14, hM14, h⟩ := sp_do_e h
          refine sp_fr.tr (sp_fr_I (Or.inl (by first | decide | simp)) hM14) ?_
          obtain ⟨M15, hM15, h⟩ := sp_do_e h
          refine sp_fr.tr (sp_fr_I (Or.inl (by first | decide | simp)) hM15) ?_
          obtain ⟨x16, hx16, h⟩ := Option.bind_eq_some_iff.mp h
          refine sp_fr.tr (sp_fr.mono (by first | decide | simp) (by first | decide | simp) (frX11_settled hx16)) ?_
          cases h
          exact sp_fr.refl _ _ _
set_option maxRecDepth 100000 in
theorem frX11_at {p : (Int32 × sp_Mem)} {M : sp_Mem} {a1 : Int32} {a2 : Int32} (h : fX11_at M a1 a2 = some p) : sp_fr [] ([(103, 0)] : List (Nat × Nat)) M p.2 := by
  unfold fX11_at at h
  obtain ⟨M1, hM1, h⟩ := sp_do_e h
  refine sp_fr.tr (sp_fr_I (Or.inr (by first | decide | simp)) hM1) ?_
  obtain ⟨v2, hv2, h⟩ := Option.bind_eq_some_iff.mp h
  by_cases hc3 : v2 = 0
  · have h := (if_pos hc3).symm.trans h
    cases h
    exact sp_fr.refl _ _ _
  · have h := (if_neg hc3).symm.trans h
    by_cases hc4 : a2 = 0
    · have h := (if_pos hc4).symm.trans h
      obtain ⟨j5, hj5, h⟩ := Option.bind_eq_some_iff.mp h
      cases h
      exact sp_fr.refl _ _ _
    have h := (if_neg hc4).symm.trans h
    by_cases hc6 : a2 = 1
    · have h := (if_pos hc6).symm.trans h
      obtain ⟨j7, hj7, h⟩ := Option.bind_eq_some_iff.mp h
      cases h
      exact sp_fr.refl _ _ _
    have h := (if_neg hc6).symm.trans h
    by_cases hc8 : a2 = 2
    · have h := (if_pos hc8).symm.trans h
      obtain ⟨j9, hj9, h⟩ := Option.bind_eq_some_iff.mp h
      cases h
      exact sp_fr.refl _ _ _
    have h := (if_neg hc8).symm.trans h
    cases h
    exact sp_fr.refl _ _ _
set_option maxRecDepth 100000 in
theorem frX11_knows {p : (Int32 × sp_Mem)} {M : sp_Mem} {a1 : Int32} {a2 : Int32} (h : fX11_knows M a1 a2 = some p) : sp_fr [104, 105] ([(103, 0), (103, 1)] : List (Nat × Nat)) M p.2 := by
  unfold fX11_knows at h
  obtain ⟨M1, hM1, h⟩ := sp_do_e h
  refine sp_fr.tr (sp_fr_I (Or.inr (by first | decide | simp)) hM1) ?_
  by_cases hc2 : (fX11_in (Int32.toInt64 a2) 0 63) = 0
  · have h := (if_pos hc2).symm.trans h
    obtain ⟨x7, hx7, h⟩ := Option.bind_eq_some_iff.mp h
    refine sp_fr.tr (sp_fr.mono (by first | decide | simp) (by first | decide | simp) (frX11_tell hx7)) ?_
    cases h
    exact sp_fr.refl _ _ _
  · have h := (if_neg hc2).symm.trans h
    obtain ⟨v3, hv3, h⟩ := Option.bind_eq_some_iff.mp h
    by_cases hc4 : v3 = 0
    · have h := (if_pos hc4).symm.trans h
      obtain ⟨x5, hx5, h⟩ := Option.bind_eq_some_iff.mp h
      refine sp_fr.tr (sp_fr.mono (by first | decide | simp) (by first | decide | simp) (frX11_tell hx5)) ?_
      cases h
      exact sp_fr.refl _ _ _
    · have h := (if_neg hc4).symm.trans h
      obtain ⟨x6, hx6, h⟩ := Option.bind_eq_some_iff.mp h
      refine sp_fr.tr (sp_fr.mono (by first | decide | simp) (by first | decide | simp) (frX11_change hx6)) ?_
      cases h
      exact sp_fr.refl _ _ _
set_option maxRecDepth 100000 in
theorem frX11_shuns {F : Nat} {p : (Int32 × sp_Mem)} {M : sp_Mem} {a1 : Int32} {a2 : Int32} {a3 : Int32} (h : fX11_shuns F M a1 a2 a3 = some p) : sp_fr [121, 123] ([(103, 34), (103, 38), (103, 39), (103, 40)] : List (Nat × Nat)) M p.2 := by
  unfold fX11_shuns at h
  obtain ⟨x1, hx1, h⟩ := Option.bind_eq_some_iff.mp h
  refine sp_fr.tr (sp_fr.mono (by first | decide | simp) (by first | decide | simp) (frX11_tells hx1)) ?_
  cases h
  exact sp_fr.refl _ _ _
set_option maxRecDepth 100000 in
theorem frX11_comes {F : Nat} {p : (Int32 × sp_Mem)} {M : sp_Mem} {a1 : Int32} {a2 : Int32} {a3 : Int32} (h : fX11_comes F M a1 a2 a3 = some p) : sp_fr [121, 123] ([(103, 34), (103, 38), (103, 39), (103, 40)] : List (Nat × Nat)) M p.2 := by
  unfold fX11_comes at h
  obtain ⟨j1, hj1, h⟩ := Option.bind_eq_some_iff.mp h
  by_cases hc2 : (fX11_is (sp_I M 105 j1) a1) = 0
  · have h := (if_pos hc2).symm.trans h
    cases h
    exact sp_fr.refl _ _ _
  · have h := (if_neg hc2).symm.trans h
    obtain ⟨j3, hj3, h⟩ := Option.bind_eq_some_iff.mp h
    obtain ⟨v4, hv4, h⟩ := Option.bind_eq_some_iff.mp h
    obtain ⟨j5, hj5, h⟩ := Option.bind_eq_some_iff.mp h
    by_cases hc6 : (sp_I M 105 j5) < v4
    · have h := (if_pos hc6).symm.trans h
      cases h
      exact sp_fr.refl _ _ _
    · have h := (if_neg hc6).symm.trans h
      obtain ⟨x7, hx7, h⟩ := Option.bind_eq_some_iff.mp h
      refine sp_fr.tr (sp_fr.mono (by first | decide | simp) (by first | decide | simp) (frX11_shuns hx7)) ?_
      cases h
      exact sp_fr.refl _ _ _
set_option maxRecDepth 100000 in
theorem frX11_asks {F : Nat} {p : (Int32 × sp_Mem)} {M : sp_Mem} {a1 : Int32} {a2 : Int32} {a3 : Int32} (h : fX11_asks F M a1 a2 a3 = some p) : sp_fr [121, 123] ([(103, 0), (103, 34), (103, 38), (103, 39), (103, 40)] : List (Nat × Nat)) M p.2 := by
  unfold fX11_asks at h
  obtain ⟨M1, hM1, h⟩ := sp_do_e h
  refine sp_fr.tr (sp_fr_I (Or.inr (by first | decide | simp)) hM1) ?_
  obtain ⟨v2, hv2, h⟩ := Option.bind_eq_some_iff.mp h
  by_cases hc3 : v2 = 0
  · have h := (if_pos hc3).symm.trans h
    cases h
    exact sp_fr.refl _ _ _
  · have h := (if_neg hc3).symm.trans h
    obtain ⟨v4, hv4, h⟩ := Option.bind_eq_some_iff.mp h
    by_cases hc5 : v4 = 0
    · have h := (if_pos hc5).symm.trans h
      cases h
      exact sp_fr.refl _ _ _
    · have h := (if_neg hc5).symm.trans h
      obtain ⟨v6, hv6, h⟩ := Option.bind_eq_some_iff.mp h
      by_cases hc7 : v6 = 0
      · have h := (if_pos hc7).symm.trans h
        cases h
        exact sp_fr.refl _ _ _
      · have h := (if_neg hc7).symm.trans h
        by_cases hc8 : a3 = 0
        · have h := (if_pos hc8).symm.trans h
          obtain ⟨j9, hj9, h⟩ := Option.bind_eq_some_iff.mp h
          obtain ⟨j10, hj10, h⟩ := Option.bind_eq_some_iff.mp h
          obtain ⟨v11, hv11, h⟩ := Option.bind_eq_some_iff.mp h
          cases h
          exact sp_fr.refl _ _ _
        have h := (if_neg hc8).symm.trans h
        by_cases hc12 : a3 = 1
        · have h := (if_pos hc12).symm.trans h
          obtain ⟨j13, hj13, h⟩ := Option.bind_eq_some_iff.mp h
          obtain ⟨x14, hx14, h⟩ := Option.bind_eq_some_iff.mp h
          refine sp_fr.tr (sp_fr.mono (by first | decide | simp) (by first | decide | simp) (frX11_shuns hx14)) ?_
          cases h
          exact sp_fr.refl _ _ _
        have h := (if_neg hc12).symm.trans h
        by_cases hc16 : a3 = 2
        · have h := (if_pos hc16).symm.trans h
          obtain ⟨j17, hj17, h⟩ := Option.bind_eq_some_iff.mp h
          obtain ⟨x18, hx18, h⟩ := Option.bind_eq_some_iff.mp h
          refine sp_fr.tr (sp_fr.mono (by first | decide | simp) (by first | decide | simp) (frX11_comes hx18)) ?_
          cases h
          exact sp_fr.refl _ _ _
        have h := (if_neg hc16).symm.trans h
        cases h
        exact sp_fr.refl _ _ _
set_option maxRecDepth 100000 in
theorem frX11_floor {p : (Int32 × sp_Mem)} {M : sp_Mem} {a1 : Int32} (h : fX11_floor M a1 = some p) : sp_fr [] ([(103, 0)] : List (Nat × Nat)) M p.2 := by
  unfold fX11_floor at h
  obtain ⟨M1, hM1, h⟩ := sp_do_e h
  refine sp_fr.tr (sp_fr_I (Or.inr (by first | decide | simp)) hM1) ?_
  by_cases hc2 : (fX11_isCell a1) = 0
  · have h := (if_pos hc2).symm.trans h
    cases h
    exact sp_fr.refl _ _ _
  · have h := (if_neg hc2).symm.trans h
    obtain ⟨j3, hj3, h⟩ := Option.bind_eq_some_iff.mp h
    cases h
    exact sp_fr.refl _ _ _
set_option maxRecDepth 100000 in
theorem frX11_terms {p : (Int32 × sp_Mem)} {M : sp_Mem} {a1 : Int32} {a2 : Int32} (h : fX11_terms M a1 a2 = some p) : sp_fr [105, 104] ([(103, 0), (103, 8), (103, 1)] : List (Nat × Nat)) M p.2 := by
  unfold fX11_terms at h
  obtain ⟨M1, hM1, h⟩ := sp_do_e h
  refine sp_fr.tr (sp_fr_I (Or.inr (by first | decide | simp)) hM1) ?_
  by_cases hc2 : (fX11_isTerm a1 a2) = 0
  · have h := (if_pos hc2).symm.trans h
    obtain ⟨x5, hx5, h⟩ := Option.bind_eq_some_iff.mp h
    refine sp_fr.tr (sp_fr.mono (by first | decide | simp) (by first | decide | simp) (frX11_tell hx5)) ?_
    cases h
    exact sp_fr.refl _ _ _
  · have h := (if_neg hc2).symm.trans h
    obtain ⟨M3, hM3, h⟩ := sp_do_e h
    refine sp_fr.tr (sp_fr_I (Or.inr (by first | decide | simp)) hM3) ?_
    obtain ⟨x4, hx4, h⟩ := Option.bind_eq_some_iff.mp h
    refine sp_fr.tr (sp_fr.mono (by first | decide | simp) (by first | decide | simp) (frX11_change hx4)) ?_
    cases h
    exact sp_fr.refl _ _ _
set_option maxRecDepth 100000 in
theorem frX11_row_j106 {F : Nat} {kb : Int32 → Int32 → Int32 → sp_Mem → Option (Int32 × sp_Mem)} {kx : Int32 → sp_Mem → Option (Int32 × sp_Mem)} {p : (Int32 × sp_Mem)} (hb : ∀ (a1 : Int32) (a2 : Int32) (a3 : Int32) (M : sp_Mem), kb a1 a2 a3 M = some p → sp_fr [105, 104] ([(103, 0), (103, 13), (103, 11), (103, 8), (103, 1)] : List (Nat × Nat)) M p.2) (hx : ∀ (a2 : Int32) (M : sp_Mem), kx a2 M = some p → sp_fr [105, 104] ([(103, 0), (103, 13), (103, 11), (103, 8), (103, 1)] : List (Nat × Nat)) M p.2) (a1 : Int32) (a2 : Int32) (a3 : Int32) (M : sp_Mem) (h : fX11_row_j106 F kb kx a1 a2 a3 M = some p) : sp_fr [105, 104] ([(103, 0), (103, 13), (103, 11), (103, 8), (103, 1)] : List (Nat × Nat)) M p.2 := by
  unfold fX11_row_j106 at h
  obtain ⟨M8, hM8, h⟩ := sp_do_e h
  refine sp_fr.tr (sp_fr_I (Or.inr (by first | decide | simp)) hM8) ?_
  exact hb _ _ _ _ h
set_option maxRecDepth 100000 in
theorem frX11_row_l35 {F : Nat} {kx : Int32 → sp_Mem → Option (Int32 × sp_Mem)} {p : (Int32 × sp_Mem)} (hx : ∀ (a2 : Int32) (M : sp_Mem), kx a2 M = some p → sp_fr [105, 104] ([(103, 0), (103, 13), (103, 11), (103, 8), (103, 1)] : List (Nat × Nat)) M p.2) : ∀ (n : Nat) (a1 : Int32) (a2 : Int32) (a3 : Int32) (M : sp_Mem), fX11_row_l35 F kx n a1 a2 a3 M = some p → sp_fr [105, 104] ([(103, 0), (103, 13), (103, 11), (103, 8), (103, 1)] : List (Nat × Nat)) M p.2 := by
  intro n
  induction n with
  | zero =>
    intro a1 a2 a3 M h
    rw [fX11_row_l35] at h
    cases h
  | succ n ih =>
    intro a1 a2 a3 M h
    rw [fX11_row_l35] at h
    by_cases hc6 : a1 ≤ a3
    · have h := (if_pos hc6).symm.trans h
      exact hx _ _ h
    · have h := (if_neg hc6).symm.trans h
      by_cases hc7 : a1 ≤ (a3 + 1)
      · have h := (if_pos hc7).symm.trans h
        exact frX11_row_j106 ih hx _ _ _ _ h
      · have h := (if_neg hc7).symm.trans h
        obtain ⟨j9, hj9, h⟩ := Option.bind_eq_some_iff.mp h
        by_cases hc10 : (fX11_isCell (sp_I M 112 j9)) = 0
        · have h := (if_pos hc10).symm.trans h
          exact frX11_row_j106 ih hx _ _ _ _ h
        · have h := (if_neg hc10).symm.trans h
          obtain ⟨j11, hj11, h⟩ := Option.bind_eq_some_iff.mp h
          by_cases hc12 : (fX11_in (Int32.toInt64 (sp_I M 112 j11)) 0 3) = 0
          · have h := (if_pos hc12).symm.trans h
            exact frX11_row_j106 ih hx _ _ _ _ h
          · have h := (if_neg hc12).symm.trans h
            obtain ⟨j13, hj13, h⟩ := Option.bind_eq_some_iff.mp h
            obtain ⟨j14, hj14, h⟩ := Option.bind_eq_some_iff.mp h
            obtain ⟨j15, hj15, h⟩ := Option.bind_eq_some_iff.mp h
            obtain ⟨M16, hM16, h⟩ := sp_do_e h
            refine sp_fr.tr (sp_fr_I (Or.inl (by first | decide | simp)) hM16) ?_
            exact ih _ _ _ _ h
set_option maxRecDepth 100000 in
theorem frX11_row {F : Nat} {p : (Int32 × sp_Mem)} {M : sp_Mem} (h : fX11_row F M = some p) : sp_fr [105, 104] ([(103, 0), (103, 13), (103, 11), (103, 8), (103, 1)] : List (Nat × Nat)) M p.2 := by
  unfold fX11_row at h
  obtain ⟨M1, hM1, h⟩ := sp_do_e h
  refine sp_fr.tr (sp_fr_I (Or.inr (by first | decide | simp)) hM1) ?_
  obtain ⟨u2, hu2, h⟩ := sp_do_e h
  obtain ⟨M3, hM3, h⟩ := sp_do_e h
  refine sp_fr.tr (sp_fr_I (Or.inr (by first | decide | simp)) hM3) ?_
  by_cases hc4 : u2 = 0
  · have h := (if_pos hc4).symm.trans h
    obtain ⟨x20, hx20, h⟩ := Option.bind_eq_some_iff.mp h
    refine sp_fr.tr (sp_fr.mono (by first | decide | simp) (by first | decide | simp) (frX11_tell hx20)) ?_
    cases h
    exact sp_fr.refl _ _ _
  · have h := (if_neg hc4).symm.trans h
    obtain ⟨M5, hM5, h⟩ := sp_do_e h
    refine sp_fr.tr (sp_fr_I (Or.inr (by first | decide | simp)) hM5) ?_
    refine frX11_row_l35 (fun b18 M17 h => ?_) F _ _ _ _ h
    obtain ⟨x19, hx19, h⟩ := Option.bind_eq_some_iff.mp h
    refine sp_fr.tr (sp_fr.mono (by first | decide | simp) (by first | decide | simp) (frX11_settled hx19)) ?_
    cases h
    exact sp_fr.refl _ _ _
set_option maxRecDepth 100000 in
theorem frX11_ash {p : (Int32 × sp_Mem)} {M : sp_Mem} (h : fX11_ash M = some p) : sp_fr [] ([(103, 0)] : List (Nat × Nat)) M p.2 := by
  unfold fX11_ash at h
  obtain ⟨M1, hM1, h⟩ := sp_do_e h
  refine sp_fr.tr (sp_fr_I (Or.inr (by first | decide | simp)) hM1) ?_
  cases h
  exact sp_fr.refl _ _ _
set_option maxRecDepth 100000 in
theorem frX11_four_l3 {F : Nat} {kx : sp_Mem → Option sp_Mem} {p : sp_Mem} (hx : ∀  (M : sp_Mem), kx M = some p → sp_fr [112] ([(103, 13)] : List (Nat × Nat)) M p) : ∀ (n : Nat) (a1 : Int32) (a2 : Int32) (M : sp_Mem), fX11_four_l3 F kx n a1 a2 M = some p → sp_fr [112] ([(103, 13)] : List (Nat × Nat)) M p := by
  intro n
  induction n with
  | zero =>
    intro a1 a2 M h
    rw [fX11_four_l3] at h
    cases h
  | succ n ih =>
    intro a1 a2 M h
    rw [fX11_four_l3] at h
    by_cases hc1 : a2 < 0
    · have h := (if_pos hc1).symm.trans h
      exact hx _ h
    · have h := (if_neg hc1).symm.trans h
      obtain ⟨j2, hj2, h⟩ := Option.bind_eq_some_iff.mp h
      obtain ⟨M3, hM3, h⟩ := sp_do_e h
      refine sp_fr.tr (sp_fr_I (Or.inl (by first | decide | simp)) hM3) ?_
      obtain ⟨M4, hM4, h⟩ := sp_do_e h
      refine sp_fr.tr (sp_fr_I (Or.inr (by first | decide | simp)) hM4) ?_
      exact ih _ _ _ h
set_option maxRecDepth 100000 in
theorem frX11_four {F : Nat} {p : sp_Mem} {M : sp_Mem} {a1 : Int32} (h : fX11_four F M a1 = some p) : sp_fr [112] ([(103, 13)] : List (Nat × Nat)) M p := by
  unfold fX11_four at h
  refine frX11_four_l3 (fun M5 h => ?_) F _ _ _ h
  cases h
  exact sp_fr.refl _ _ _
set_option maxRecDepth 100000 in
theorem frX11_feed {F : Nat} {p : (Int32 × sp_Mem)} {M : sp_Mem} {a1 : Int32} {a2 : Int32} {a3 : Int32} {a4 : Int32} {a5 : Int32} (h : fX11_feed F M a1 a2 a3 a4 a5 = some p) : sp_fr [112] ([(103, 0), (103, 13)] : List (Nat × Nat)) M p.2 := by
  unfold fX11_feed at h
  obtain ⟨M1, hM1, h⟩ := sp_do_e h
  refine sp_fr.tr (sp_fr_I (Or.inr (by first | decide | simp)) hM1) ?_
  by_cases hc2 : ((sp_I M1 103 13) + 20) ≤ 400
  · have h := (if_pos hc2).symm.trans h
    obtain ⟨M3, hM3, h⟩ := Option.bind_eq_some_iff.mp h
    refine sp_fr.tr (sp_fr.mono (by first | decide | simp) (by first | decide | simp) (frX11_four hM3)) ?_
    obtain ⟨M4, hM4, h⟩ := Option.bind_eq_some_iff.mp h
    refine sp_fr.tr (sp_fr.mono (by first | decide | simp) (by first | decide | simp) (frX11_four hM4)) ?_
    obtain ⟨M5, hM5, h⟩ := Option.bind_eq_some_iff.mp h
    refine sp_fr.tr (sp_fr.mono (by first | decide | simp) (by first | decide | simp) (frX11_four hM5)) ?_
    obtain ⟨M6, hM6, h⟩ := Option.bind_eq_some_iff.mp h
    refine sp_fr.tr (sp_fr.mono (by first | decide | simp) (by first | decide | simp) (frX11_four hM6)) ?_
    obtain ⟨M7, hM7, h⟩ := Option.bind_eq_some_iff.mp h
    refine sp_fr.tr (sp_fr.mono (by first | decide | simp) (by first | decide | simp) (frX11_four hM7)) ?_
    cases h
    exact sp_fr.refl _ _ _
  · have h := (if_neg hc2).symm.trans h
    cases h
    exact sp_fr.refl _ _ _
set_option maxRecDepth 100000 in
theorem frX11_end {p : (Int32 × sp_Mem)} {M : sp_Mem} {a1 : Int32} (h : fX11_end M a1 = some p) : sp_fr [] ([(103, 0), (103, 13)] : List (Nat × Nat)) M p.2 := by
  unfold fX11_end at h
  obtain ⟨M1, hM1, h⟩ := sp_do_e h
  refine sp_fr.tr (sp_fr_I (Or.inr (by first | decide | simp)) hM1) ?_
  by_cases hc2 : a1 < 0
  · have h := (if_pos hc2).symm.trans h
    cases h
    exact sp_fr.refl _ _ _
  · have h := (if_neg hc2).symm.trans h
    by_cases hc3 : a1 ≤ (sp_I M1 103 13)
    · have h := (if_pos hc3).symm.trans h
      obtain ⟨M4, hM4, h⟩ := sp_do_e h
      refine sp_fr.tr (sp_fr_I (Or.inr (by first | decide | simp)) hM4) ?_
      cases h
      exact sp_fr.refl _ _ _
    · have h := (if_neg hc3).symm.trans h
      cases h
      exact sp_fr.refl _ _ _
set_option maxRecDepth 100000 in
theorem frX11_next_l8 {F : Nat} {kx : sp_Mem → Option sp_Mem} {p : sp_Mem} (hx : ∀  (M : sp_Mem), kx M = some p → sp_fr [] ([(103, 14), (103, 15), (103, 17), (103, 16)] : List (Nat × Nat)) M p) : ∀ (n : Nat)  (M : sp_Mem), fX11_next_l8 F kx n M = some p → sp_fr [] ([(103, 14), (103, 15), (103, 17), (103, 16)] : List (Nat × Nat)) M p := by
  intro n
  induction n with
  | zero =>
    intro M h
    rw [fX11_next_l8] at h
    cases h
  | succ n ih =>
    intro M h
    rw [fX11_next_l8] at h
    by_cases hc2 : (sp_I M 103 13) ≤ (sp_I M 103 14)
    · have h := (if_pos hc2).symm.trans h
      exact hx _ h
    · have h := (if_neg hc2).symm.trans h
      obtain ⟨j3, hj3, h⟩ := Option.bind_eq_some_iff.mp h
      by_cases hc4 : (sp_I M 112 j3) = 32
      · have h := (if_pos hc4).symm.trans h
        obtain ⟨M5, hM5, h⟩ := sp_do_e h
        refine sp_fr.tr (sp_fr_I (Or.inr (by first | decide | simp)) hM5) ?_
        exact ih _ h
      · have h := (if_neg hc4).symm.trans h
        exact hx _ h
set_option maxRecDepth 100000 in
theorem frX11_next_j227 {F : Nat} {kb : sp_Mem → Option sp_Mem} {kx : sp_Mem → Option sp_Mem} {p : sp_Mem} (hb : ∀  (M : sp_Mem), kb M = some p → sp_fr [] ([(103, 14), (103, 15), (103, 17), (103, 16)] : List (Nat × Nat)) M p) (hx : ∀  (M : sp_Mem), kx M = some p → sp_fr [] ([(103, 14), (103, 15), (103, 17), (103, 16)] : List (Nat × Nat)) M p) (s0 : Int64) (M : sp_Mem) (h : fX11_next_j227 F kb kx s0 M = some p) : sp_fr [] ([(103, 14), (103, 15), (103, 17), (103, 16)] : List (Nat × Nat)) M p := by
  unfold fX11_next_j227 at h
  obtain ⟨M21, hM21, h⟩ := sp_do_e h
  refine sp_fr.tr (sp_fr_L (Or.inr (by first | decide | simp)) hM21) ?_
  obtain ⟨M22, hM22, h⟩ := sp_do_e h
  refine sp_fr.tr (sp_fr_I (Or.inr (by first | decide | simp)) hM22) ?_
  exact hb _ h
set_option maxRecDepth 100000 in
theorem frX11_next_l149 {F : Nat} {kx : sp_Mem → Option sp_Mem} {p : sp_Mem} (hx : ∀  (M : sp_Mem), kx M = some p → sp_fr [] ([(103, 14), (103, 15), (103, 17), (103, 16)] : List (Nat × Nat)) M p) : ∀ (n : Nat)  (M : sp_Mem), fX11_next_l149 F kx n M = some p → sp_fr [] ([(103, 14), (103, 15), (103, 17), (103, 16)] : List (Nat × Nat)) M p := by
  intro n
  induction n with
  | zero =>
    intro M h
    rw [fX11_next_l149] at h
    cases h
  | succ n ih =>
    intro M h
    rw [fX11_next_l149] at h
    by_cases hc16 : (sp_I M 103 16) = 1
    · have h := (if_pos hc16).symm.trans h
      by_cases hc17 : (sp_I M 103 13) ≤ (sp_I M 103 15)
      · have h := (if_pos hc17).symm.trans h
        exact hx _ h
      · have h := (if_neg hc17).symm.trans h
        obtain ⟨j18, hj18, h⟩ := Option.bind_eq_some_iff.mp h
        by_cases hc19 : (fX11_isSmall (sp_I M 112 j18)) = 0
        · have h := (if_pos hc19).symm.trans h
          exact hx _ h
        · have h := (if_neg hc19).symm.trans h
          by_cases hc20 : 10 ≤ ((sp_I M 103 15) - (sp_I M 103 14))
          · have h := (if_pos hc20).symm.trans h
            exact frX11_next_j227 ih hx _ _ h
          · have h := (if_neg hc20).symm.trans h
            obtain ⟨j23, hj23, h⟩ := Option.bind_eq_some_iff.mp h
            exact frX11_next_j227 ih hx _ _ h
    · have h := (if_neg hc16).symm.trans h
      exact hx _ h
set_option maxRecDepth 100000 in
theorem frX11_next_j319 {F : Nat} {kb : sp_Mem → Option sp_Mem} {kx : sp_Mem → Option sp_Mem} {p : sp_Mem} (hb : ∀  (M : sp_Mem), kb M = some p → sp_fr [] ([(103, 14), (103, 15), (103, 17), (103, 16)] : List (Nat × Nat)) M p) (hx : ∀  (M : sp_Mem), kx M = some p → sp_fr [] ([(103, 14), (103, 15), (103, 17), (103, 16)] : List (Nat × Nat)) M p) (s0 : Int64) (M : sp_Mem) (h : fX11_next_j319 F kb kx s0 M = some p) : sp_fr [] ([(103, 14), (103, 15), (103, 17), (103, 16)] : List (Nat × Nat)) M p := by
  unfold fX11_next_j319 at h
  obtain ⟨M31, hM31, h⟩ := sp_do_e h
  refine sp_fr.tr (sp_fr_L (Or.inr (by first | decide | simp)) hM31) ?_
  obtain ⟨M32, hM32, h⟩ := sp_do_e h
  refine sp_fr.tr (sp_fr_I (Or.inr (by first | decide | simp)) hM32) ?_
  exact hb _ h
set_option maxRecDepth 100000 in
theorem frX11_next_l243 {F : Nat} {kx : sp_Mem → Option sp_Mem} {p : sp_Mem} (hx : ∀  (M : sp_Mem), kx M = some p → sp_fr [] ([(103, 14), (103, 15), (103, 17), (103, 16)] : List (Nat × Nat)) M p) : ∀ (n : Nat)  (M : sp_Mem), fX11_next_l243 F kx n M = some p → sp_fr [] ([(103, 14), (103, 15), (103, 17), (103, 16)] : List (Nat × Nat)) M p := by
  intro n
  induction n with
  | zero =>
    intro M h
    rw [fX11_next_l243] at h
    cases h
  | succ n ih =>
    intro M h
    rw [fX11_next_l243] at h
    by_cases hc25 : (sp_I M 103 16) = 2
    · have h := (if_pos hc25).symm.trans h
      by_cases hc26 : (sp_I M 103 13) ≤ (sp_I M 103 15)
      · have h := (if_pos hc26).symm.trans h
        exact hx _ h
      · have h := (if_neg hc26).symm.trans h
        obtain ⟨j27, hj27, h⟩ := Option.bind_eq_some_iff.mp h
        by_cases hc28 : (fX11_isDigit (sp_I M 112 j27)) = 0
        · have h := (if_pos hc28).symm.trans h
          exact hx _ h
        · have h := (if_neg hc28).symm.trans h
          by_cases hc29 : (sp_L M 103 17) ≤ 1000000
          · have h := (if_pos hc29).symm.trans h
            obtain ⟨j30, hj30, h⟩ := Option.bind_eq_some_iff.mp h
            exact frX11_next_j319 ih hx _ _ h
          · have h := (if_neg hc29).symm.trans h
            exact frX11_next_j319 ih hx _ _ h
    · have h := (if_neg hc25).symm.trans h
      exact hx _ h
set_option maxRecDepth 100000 in
theorem frX11_next_j114 {F : Nat} {p : sp_Mem} (s0 : Int32) (M : sp_Mem) (h : fX11_next_j114 F s0 M = some p) : sp_fr [] ([(103, 14), (103, 15), (103, 17), (103, 16)] : List (Nat × Nat)) M p := by
  unfold fX11_next_j114 at h
  obtain ⟨M14, hM14, h⟩ := sp_do_e h
  refine sp_fr.tr (sp_fr_I (Or.inr (by first | decide | simp)) hM14) ?_
  by_cases hc15 : (sp_I M14 103 16) = 3
  · have h := (if_pos hc15).symm.trans h
    obtain ⟨j34, hj34, h⟩ := Option.bind_eq_some_iff.mp h
    obtain ⟨M35, hM35, h⟩ := sp_do_e h
    refine sp_fr.tr (sp_fr_L (Or.inr (by first | decide | simp)) hM35) ?_
    obtain ⟨M36, hM36, h⟩ := sp_do_e h
    refine sp_fr.tr (sp_fr_I (Or.inr (by first | decide | simp)) hM36) ?_
    refine frX11_next_l149 (fun M37 h => ?_) F _ h
    refine frX11_next_l243 (fun M38 h => ?_) F _ h
    cases h
    exact sp_fr.refl _ _ _
  · have h := (if_neg hc15).symm.trans h
    refine frX11_next_l149 (fun M24 h => ?_) F _ h
    refine frX11_next_l243 (fun M33 h => ?_) F _ h
    cases h
    exact sp_fr.refl _ _ _
set_option maxRecDepth 100000 in
theorem frX11_next_j46 {F : Nat} {p : sp_Mem} (M : sp_Mem) (h : fX11_next_j46 F M = some p) : sp_fr [] ([(103, 14), (103, 15), (103, 17), (103, 16)] : List (Nat × Nat)) M p := by
  unfold fX11_next_j46 at h
  obtain ⟨M7, hM7, h⟩ := sp_do_e h
  refine sp_fr.tr (sp_fr_I (Or.inr (by first | decide | simp)) hM7) ?_
  obtain ⟨M8, hM8, h⟩ := sp_do_e h
  refine sp_fr.tr (sp_fr_L (Or.inr (by first | decide | simp)) hM8) ?_
  by_cases hc9 : (sp_I M8 103 14) = (sp_I M8 103 13)
  · have h := (if_pos hc9).symm.trans h
    exact frX11_next_j114 _ _ h
  · have h := (if_neg hc9).symm.trans h
    obtain ⟨j10, hj10, h⟩ := Option.bind_eq_some_iff.mp h
    by_cases hc11 : (fX11_isSmall (sp_I M8 112 j10)) = 0
    · have h := (if_pos hc11).symm.trans h
      obtain ⟨j12, hj12, h⟩ := Option.bind_eq_some_iff.mp h
      exact frX11_next_j114 _ _ h
    · have h := (if_neg hc11).symm.trans h
      exact frX11_next_j114 _ _ h
set_option maxRecDepth 100000 in
theorem frX11_next {F : Nat} {p : sp_Mem} {M : sp_Mem} (h : fX11_next F M = some p) : sp_fr [] ([(103, 14), (103, 15), (103, 17), (103, 16)] : List (Nat × Nat)) M p := by
  unfold fX11_next at h
  obtain ⟨M1, hM1, h⟩ := sp_do_e h
  refine sp_fr.tr (sp_fr_I (Or.inr (by first | decide | simp)) hM1) ?_
  refine frX11_next_l8 (fun M6 h => ?_) F _ h
  exact frX11_next_j46 _ h
set_option maxRecDepth 100000 in
theorem frX11_begin {F : Nat} {p : sp_Mem} {M : sp_Mem} (h : fX11_begin F M = some p) : sp_fr [] ([(103, 15), (103, 19), (103, 18), (103, 14), (103, 17), (103, 16)] : List (Nat × Nat)) M p := by
  unfold fX11_begin at h
  obtain ⟨M1, hM1, h⟩ := sp_do_e h
  refine sp_fr.tr (sp_fr_I (Or.inr (by first | decide | simp)) hM1) ?_
  obtain ⟨M2, hM2, h⟩ := sp_do_e h
  refine sp_fr.tr (sp_fr_I (Or.inr (by first | decide | simp)) hM2) ?_
  obtain ⟨M3, hM3, h⟩ := sp_do_e h
  refine sp_fr.tr (sp_fr_I (Or.inr (by first | decide | simp)) hM3) ?_
  obtain ⟨M4, hM4, h⟩ := Option.bind_eq_some_iff.mp h
  refine sp_fr.tr (sp_fr.mono (by first | decide | simp) (by first | decide | simp) (frX11_next hM4)) ?_
  cases h
  exact sp_fr.refl _ _ _
set_option maxRecDepth 100000 in
theorem frX11_must {F : Nat} {p : sp_Mem} {M : sp_Mem} {a1 : Int32} (h : fX11_must F M a1 = some p) : sp_fr [] ([(103, 14), (103, 15), (103, 17), (103, 16), (103, 19), (103, 18)] : List (Nat × Nat)) M p := by
  unfold fX11_must at h
  by_cases hc1 : (sp_I M 103 19) = 0
  · have h := (if_pos hc1).symm.trans h
    by_cases hc4 : a1 = 0
    · have h := (if_pos hc4).symm.trans h
      obtain ⟨M7, hM7, h⟩ := sp_do_e h
      refine sp_fr.tr (sp_fr_I (Or.inr (by first | decide | simp)) hM7) ?_
      obtain ⟨M8, hM8, h⟩ := sp_do_e h
      refine sp_fr.tr (sp_fr_I (Or.inr (by first | decide | simp)) hM8) ?_
      by_cases hc9 : (sp_I M8 103 19) = 0
      · have h := (if_pos hc9).symm.trans h
        obtain ⟨M10, hM10, h⟩ := Option.bind_eq_some_iff.mp h
        refine sp_fr.tr (sp_fr.mono (by first | decide | simp) (by first | decide | simp) (frX11_next hM10)) ?_
        cases h
        exact sp_fr.refl _ _ _
      · have h := (if_neg hc9).symm.trans h
        cases h
        exact sp_fr.refl _ _ _
    · have h := (if_neg hc4).symm.trans h
      by_cases hc5 : (sp_I M 103 19) = 0
      · have h := (if_pos hc5).symm.trans h
        obtain ⟨M6, hM6, h⟩ := Option.bind_eq_some_iff.mp h
        refine sp_fr.tr (sp_fr.mono (by first | decide | simp) (by first | decide | simp) (frX11_next hM6)) ?_
        cases h
        exact sp_fr.refl _ _ _
      · have h := (if_neg hc5).symm.trans h
        cases h
        exact sp_fr.refl _ _ _
  · have h := (if_neg hc1).symm.trans h
    by_cases hc2 : (sp_I M 103 19) = 0
    · have h := (if_pos hc2).symm.trans h
      obtain ⟨M3, hM3, h⟩ := Option.bind_eq_some_iff.mp h
      refine sp_fr.tr (sp_fr.mono (by first | decide | simp) (by first | decide | simp) (frX11_next hM3)) ?_
      cases h
      exact sp_fr.refl _ _ _
    · have h := (if_neg hc2).symm.trans h
      cases h
      exact sp_fr.refl _ _ _
set_option maxRecDepth 100000 in
theorem frX11_number {F : Nat} {p : (Int32 × sp_Mem)} {M : sp_Mem} {a1 : Int64} {a3 : Int64} (h : fX11_number F M a1 a3 = some p) : sp_fr [] ([(103, 14), (103, 15), (103, 17), (103, 16), (103, 19), (103, 18)] : List (Nat × Nat)) M p.2 := by
  unfold fX11_number at h
  obtain ⟨u1, hu1, h⟩ := sp_do_e h
  by_cases hc2 : (sp_I M 103 16) = 2
  · have h := (if_pos hc2).symm.trans h
    obtain ⟨M5, hM5, h⟩ := Option.bind_eq_some_iff.mp h
    refine sp_fr.tr (sp_fr.mono (by first | decide | simp) (by first | decide | simp) (frX11_must hM5)) ?_
    cases h
    exact sp_fr.refl _ _ _
  · have h := (if_neg hc2).symm.trans h
    obtain ⟨M3, hM3, h⟩ := Option.bind_eq_some_iff.mp h
    refine sp_fr.tr (sp_fr.mono (by first | decide | simp) (by first | decide | simp) (frX11_must hM3)) ?_
    cases h
    exact sp_fr.refl _ _ _
set_option maxRecDepth 100000 in
theorem frX11_fault {p : (Int32 × sp_Mem)} {M : sp_Mem} (h : fX11_fault M = some p) : sp_fr [] ([(103, 0)] : List (Nat × Nat)) M p.2 := by
  unfold fX11_fault at h
  obtain ⟨M1, hM1, h⟩ := sp_do_e h
  refine sp_fr.tr (sp_fr_I (Or.inr (by first | decide | simp)) hM1) ?_
  cases h
  exact sp_fr.refl _ _ _
set_option maxRecDepth 100000 in
theorem frX11_emit {p : sp_Mem} {M : sp_Mem} {a1 : Int32} {a2 : Int32} (h : fX11_emit M a1 a2 = some p) : sp_fr [114, 115] ([(103, 23)] : List (Nat × Nat)) M p := by
  unfold fX11_emit at h
  obtain ⟨j1, hj1, h⟩ := Option.bind_eq_some_iff.mp h
  obtain ⟨M2, hM2, h⟩ := sp_do_e h
  refine sp_fr.tr (sp_fr_I (Or.inl (by first | decide | simp)) hM2) ?_
  obtain ⟨j3, hj3, h⟩ := Option.bind_eq_some_iff.mp h
  obtain ⟨M4, hM4, h⟩ := sp_do_e h
  refine sp_fr.tr (sp_fr_I (Or.inl (by first | decide | simp)) hM4) ?_
  obtain ⟨M5, hM5, h⟩ := sp_do_e h
  refine sp_fr.tr (sp_fr_I (Or.inr (by first | decide | simp)) hM5) ?_
  cases h
  exact sp_fr.refl _ _ _
set_option maxRecDepth 100000 in
theorem frX11_push {p : sp_Mem} {M : sp_Mem} {a1 : Int32} {a2 : Int32} (h : fX11_push M a1 a2 = some p) : sp_fr [116, 117] ([(103, 29)] : List (Nat × Nat)) M p := by
  unfold fX11_push at h
  obtain ⟨j1, hj1, h⟩ := Option.bind_eq_some_iff.mp h
  obtain ⟨M2, hM2, h⟩ := sp_do_e h
  refine sp_fr.tr (sp_fr_I (Or.inl (by first | decide | simp)) hM2) ?_
  obtain ⟨j3, hj3, h⟩ := Option.bind_eq_some_iff.mp h
  obtain ⟨M4, hM4, h⟩ := sp_do_e h
  refine sp_fr.tr (sp_fr_I (Or.inl (by first | decide | simp)) hM4) ?_
  obtain ⟨M5, hM5, h⟩ := sp_do_e h
  refine sp_fr.tr (sp_fr_I (Or.inr (by first | decide | simp)) hM5) ?_
  cases h
  exact sp_fr.refl _ _ _
set_option maxRecDepth 100000 in
theorem frX11_settle_j63 {F : Nat} {kb : Int32 → sp_Mem → Option sp_Mem} {kx : sp_Mem → Option sp_Mem} {p : sp_Mem} (hb : ∀ (a1 : Int32) (M : sp_Mem), kb a1 M = some p → sp_fr [115, 114] ([(103, 29), (103, 23)] : List (Nat × Nat)) M p) (hx : ∀  (M : sp_Mem), kx M = some p → sp_fr [115, 114] ([(103, 29), (103, 23)] : List (Nat × Nat)) M p) (a1 : Int32) (M : sp_Mem) (h : fX11_settle_j63 F kb kx a1 M = some p) : sp_fr [115, 114] ([(103, 29), (103, 23)] : List (Nat × Nat)) M p := by
  unfold fX11_settle_j63 at h
  obtain ⟨j7, hj7, h⟩ := Option.bind_eq_some_iff.mp h
  obtain ⟨j8, hj8, h⟩ := Option.bind_eq_some_iff.mp h
  obtain ⟨M9, hM9, h⟩ := sp_do_e h
  refine sp_fr.tr (sp_fr_I (Or.inl (by first | decide | simp)) hM9) ?_
  exact hb _ _ h
set_option maxRecDepth 100000 in
theorem frX11_settle_l0 {F : Nat} {kx : sp_Mem → Option sp_Mem} {p : sp_Mem} (hx : ∀  (M : sp_Mem), kx M = some p → sp_fr [115, 114] ([(103, 29), (103, 23)] : List (Nat × Nat)) M p) : ∀ (n : Nat) (a1 : Int32) (M : sp_Mem), fX11_settle_l0 F kx n a1 M = some p → sp_fr [115, 114] ([(103, 29), (103, 23)] : List (Nat × Nat)) M p := by
  intro n
  induction n with
  | zero =>
    intro a1 M h
    rw [fX11_settle_l0] at h
    cases h
  | succ n ih =>
    intro a1 M h
    rw [fX11_settle_l0] at h
    by_cases hc1 : (sp_I M 103 29) ≤ 0
    · have h := (if_pos hc1).symm.trans h
      exact hx _ h
    · have h := (if_neg hc1).symm.trans h
      obtain ⟨j2, hj2, h⟩ := Option.bind_eq_some_iff.mp h
      by_cases hc3 : (fX11_binds (sp_I M 116 j2)) < a1
      · have h := (if_pos hc3).symm.trans h
        exact hx _ h
      · have h := (if_neg hc3).symm.trans h
        obtain ⟨M4, hM4, h⟩ := sp_do_e h
        refine sp_fr.tr (sp_fr_I (Or.inr (by first | decide | simp)) hM4) ?_
        obtain ⟨j5, hj5, h⟩ := Option.bind_eq_some_iff.mp h
        by_cases hc6 : (sp_I M4 116 j5) = 29
        · have h := (if_pos hc6).symm.trans h
          exact frX11_settle_j63 ih hx _ _ h
        · have h := (if_neg hc6).symm.trans h
          obtain ⟨j10, hj10, h⟩ := Option.bind_eq_some_iff.mp h
          by_cases hc11 : (sp_I M4 116 j10) = 30
          · have h := (if_pos hc11).symm.trans h
            exact frX11_settle_j63 ih hx _ _ h
          · have h := (if_neg hc11).symm.trans h
            obtain ⟨j12, hj12, h⟩ := Option.bind_eq_some_iff.mp h
            obtain ⟨M13, hM13, h⟩ := Option.bind_eq_some_iff.mp h
            refine sp_fr.tr (sp_fr.mono (by first | decide | simp) (by first | decide | simp) (frX11_emit hM13)) ?_
            exact ih _ _ h
set_option maxRecDepth 100000 in
theorem frX11_settle {F : Nat} {p : sp_Mem} {M : sp_Mem} {a1 : Int32} (h : fX11_settle F M a1 = some p) : sp_fr [115, 114] ([(103, 29), (103, 23)] : List (Nat × Nat)) M p := by
  unfold fX11_settle at h
  refine frX11_settle_l0 (fun M14 h => ?_) F _ _ h
  cases h
  exact sp_fr.refl _ _ _
set_option maxRecDepth 100000 in
theorem frX11_openBracket_j15 {F : Nat} {p : sp_Mem} (a1 : Int32) (s0 : Int32) (M : sp_Mem) (h : fX11_openBracket_j15 F a1 s0 M = some p) : sp_fr [116, 117] ([(103, 14), (103, 15), (103, 17), (103, 16), (103, 19), (103, 18), (103, 30), (103, 29)] : List (Nat × Nat)) M p := by
  unfold fX11_openBracket_j15 at h
  obtain ⟨M2, hM2, h⟩ := Option.bind_eq_some_iff.mp h
  refine sp_fr.tr (sp_fr.mono (by first | decide | simp) (by first | decide | simp) (frX11_must hM2)) ?_
  by_cases hc3 : (sp_I M2 103 19) = 0
  · have h := (if_pos hc3).symm.trans h
    obtain ⟨M4, hM4, h⟩ := sp_do_e h
    refine sp_fr.tr (sp_fr_I (Or.inr (by first | decide | simp)) hM4) ?_
    obtain ⟨M5, hM5, h⟩ := Option.bind_eq_some_iff.mp h
    refine sp_fr.tr (sp_fr.mono (by first | decide | simp) (by first | decide | simp) (frX11_push hM5)) ?_
    cases h
    exact sp_fr.refl _ _ _
  · have h := (if_neg hc3).symm.trans h
    cases h
    exact sp_fr.refl _ _ _
set_option maxRecDepth 100000 in
theorem frX11_openBracket {F : Nat} {p : sp_Mem} {M : sp_Mem} {a1 : Int32} (h : fX11_openBracket F M a1 = some p) : sp_fr [116, 117] ([(103, 14), (103, 15), (103, 17), (103, 16), (103, 19), (103, 18), (103, 30), (103, 29)] : List (Nat × Nat)) M p := by
  unfold fX11_openBracket at h
  exact frX11_openBracket_j15 _ _ _ h
set_option maxRecDepth 100000 in
theorem frX11_leaf_j19 {F : Nat} {p : sp_Mem} (a2 : Int32) (a3 : Int32) (s0 : Int32) (M : sp_Mem) (h : fX11_leaf_j19 F a2 a3 s0 M = some p) : sp_fr [114, 115] ([(103, 14), (103, 15), (103, 17), (103, 16), (103, 19), (103, 18), (103, 23), (103, 26)] : List (Nat × Nat)) M p := by
  unfold fX11_leaf_j19 at h
  obtain ⟨M2, hM2, h⟩ := Option.bind_eq_some_iff.mp h
  refine sp_fr.tr (sp_fr.mono (by first | decide | simp) (by first | decide | simp) (frX11_must hM2)) ?_
  by_cases hc3 : (sp_I M2 103 19) = 0
  · have h := (if_pos hc3).symm.trans h
    obtain ⟨M4, hM4, h⟩ := Option.bind_eq_some_iff.mp h
    refine sp_fr.tr (sp_fr.mono (by first | decide | simp) (by first | decide | simp) (frX11_emit hM4)) ?_
    obtain ⟨M5, hM5, h⟩ := sp_do_e h
    refine sp_fr.tr (sp_fr_I (Or.inr (by first | decide | simp)) hM5) ?_
    cases h
    exact sp_fr.refl _ _ _
  · have h := (if_neg hc3).symm.trans h
    cases h
    exact sp_fr.refl _ _ _
set_option maxRecDepth 100000 in
theorem frX11_leaf_j18 {F : Nat} {p : sp_Mem} (a2 : Int32) (a3 : Int32) (M : sp_Mem) (h : fX11_leaf_j18 F a2 a3 M = some p) : sp_fr [114, 115] ([(103, 14), (103, 15), (103, 17), (103, 16), (103, 19), (103, 18), (103, 23), (103, 26)] : List (Nat × Nat)) M p := by
  unfold fX11_leaf_j18 at h
  exact frX11_leaf_j19 _ _ _ _ h
set_option maxRecDepth 100000 in
theorem frX11_leaf {F : Nat} {p : sp_Mem} {M : sp_Mem} {a1 : Int32} {a2 : Int32} {a3 : Int32} (h : fX11_leaf F M a1 a2 a3 = some p) : sp_fr [114, 115] ([(103, 14), (103, 15), (103, 17), (103, 16), (103, 19), (103, 18), (103, 23), (103, 26)] : List (Nat × Nat)) M p := by
  unfold fX11_leaf at h
  by_cases hc1 : a1 = 0
  · have h := (if_pos hc1).symm.trans h
    exact frX11_leaf_j18 _ _ _ h
  · have h := (if_neg hc1).symm.trans h
    exact frX11_leaf_j19 _ _ _ _ h
set_option maxRecDepth 100000 in
theorem frX11_readPart_j99 {F : Nat} {p : (Int32 × sp_Mem)} (a1 : Int32) (s0 : Int32) (s1 : Int32) (s2 : Int32) (M : sp_Mem) (h : fX11_readPart_j99 F a1 s0 s1 s2 M = some p) : sp_fr [114, 115, 116, 117] ([(103, 14), (103, 15), (103, 17), (103, 16), (103, 19), (103, 18), (103, 23), (103, 26), (103, 30), (103, 29)] : List (Nat × Nat)) M p.2 := by
  unfold fX11_readPart_j99 at h
  obtain ⟨M9, hM9, h⟩ := Option.bind_eq_some_iff.mp h
  refine sp_fr.tr (sp_fr.mono (by first | decide | simp) (by first | decide | simp) (frX11_leaf hM9)) ?_
  by_cases hc10 : (sp_I M9 103 20) = 0
  · have h := (if_pos hc10).symm.trans h
    cases h
    exact sp_fr.refl _ _ _
  · have h := (if_neg hc10).symm.trans h
    by_cases hc11 : a1 < 5
    · have h := (if_pos hc11).symm.trans h
      cases h
      exact sp_fr.refl _ _ _
    · have h := (if_neg hc11).symm.trans h
      by_cases hc12 : (sp_I M9 103 19) = 0
      · have h := (if_pos hc12).symm.trans h
        obtain ⟨u13, hu13, h⟩ := sp_do_e h
        obtain ⟨x14, hx14, h⟩ := Option.bind_eq_some_iff.mp h
        refine sp_fr.tr (sp_fr.mono (by first | decide | simp) (by first | decide | simp) (frX11_number hx14)) ?_
        obtain ⟨j15, hj15, h⟩ := Option.bind_eq_some_iff.mp h
        obtain ⟨M16, hM16, h⟩ := sp_do_e h
        refine sp_fr.tr (sp_fr_I (Or.inl (by first | decide | simp)) hM16) ?_
        cases h
        exact sp_fr.refl _ _ _
      · have h := (if_neg hc12).symm.trans h
        cases h
        exact sp_fr.refl _ _ _
set_option maxRecDepth 100000 in
theorem frX11_readPart_j86 {F : Nat} {p : (Int32 × sp_Mem)} (a1 : Int32) (a2 : Int32) (s0 : Int32) (s1 : Int32) (M : sp_Mem) (h : fX11_readPart_j86 F a1 a2 s0 s1 M = some p) : sp_fr [114, 115, 116, 117] ([(103, 14), (103, 15), (103, 17), (103, 16), (103, 19), (103, 18), (103, 23), (103, 26), (103, 30), (103, 29)] : List (Nat × Nat)) M p.2 := by
  unfold fX11_readPart_j86 at h
  by_cases hc8 : a2 = 0
  · have h := (if_pos hc8).symm.trans h
    exact frX11_readPart_j99 _ _ _ _ _ h
  · have h := (if_neg hc8).symm.trans h
    exact frX11_readPart_j99 _ _ _ _ _ h
set_option maxRecDepth 100000 in
theorem frX11_readPart_j76 {F : Nat} {p : (Int32 × sp_Mem)} (a1 : Int32) (a2 : Int32) (s0 : Int32) (M : sp_Mem) (h : fX11_readPart_j76 F a1 a2 s0 M = some p) : sp_fr [114, 115, 116, 117] ([(103, 14), (103, 15), (103, 17), (103, 16), (103, 19), (103, 18), (103, 23), (103, 26), (103, 30), (103, 29)] : List (Nat × Nat)) M p.2 := by
  unfold fX11_readPart_j76 at h
  exact frX11_readPart_j86 _ _ _ _ _ h
set_option maxRecDepth 100000 in
theorem frX11_readPart_j60 {F : Nat} {p : (Int32 × sp_Mem)} (a1 : Int32) (s0 : Int32) (M : sp_Mem) (h : fX11_readPart_j60 F a1 s0 M = some p) : sp_fr [114, 115, 116, 117] ([(103, 14), (103, 15), (103, 17), (103, 16), (103, 19), (103, 18), (103, 23), (103, 26), (103, 30), (103, 29)] : List (Nat × Nat)) M p.2 := by
  unfold fX11_readPart_j60 at h
  exact frX11_readPart_j76 _ _ _ _ h
set_option maxRecDepth 100000 in
theorem frX11_readPart_j59 {F : Nat} {p : (Int32 × sp_Mem)} (a1 : Int32) (M : sp_Mem) (h : fX11_readPart_j59 F a1 M = some p) : sp_fr [114, 115, 116, 117] ([(103, 14), (103, 15), (103, 17), (103, 16), (103, 19), (103, 18), (103, 23), (103, 26), (103, 30), (103, 29)] : List (Nat × Nat)) M p.2 := by
  unfold fX11_readPart_j59 at h
  exact frX11_readPart_j60 _ _ _ h
set_option maxRecDepth 100000 in
theorem frX11_readPart_j35 {F : Nat} {p : (Int32 × sp_Mem)} (s0 : Int32) (M : sp_Mem) (h : fX11_readPart_j35 F s0 M = some p) : sp_fr [114, 115, 116, 117] ([(103, 14), (103, 15), (103, 17), (103, 16), (103, 19), (103, 18), (103, 23), (103, 26), (103, 30), (103, 29)] : List (Nat × Nat)) M p.2 := by
  unfold fX11_readPart_j35 at h
  by_cases hc4 : (sp_I M 103 16) = 2
  · have h := (if_pos hc4).symm.trans h
    exact frX11_readPart_j60 _ _ _ h
  · have h := (if_neg hc4).symm.trans h
    exact frX11_readPart_j59 _ _ h
set_option maxRecDepth 100000 in
theorem frX11_readPart {F : Nat} {p : (Int32 × sp_Mem)} {M : sp_Mem} (h : fX11_readPart F M = some p) : sp_fr [114, 115, 116, 117] ([(103, 14), (103, 15), (103, 17), (103, 16), (103, 19), (103, 18), (103, 23), (103, 26), (103, 30), (103, 29)] : List (Nat × Nat)) M p.2 := by
  unfold fX11_readPart at h
  by_cases hc1 : (fX11_isSign M 91) = 0
  · have h := (if_pos hc1).symm.trans h
    by_cases hc2 : (sp_I M 103 20) = 0
    · have h := (if_pos hc2).symm.trans h
      obtain ⟨v3, hv3, h⟩ := Option.bind_eq_some_iff.mp h
      exact frX11_readPart_j35 _ _ h
    · have h := (if_neg hc2).symm.trans h
      obtain ⟨v18, hv18, h⟩ := Option.bind_eq_some_iff.mp h
      exact frX11_readPart_j35 _ _ h
  · have h := (if_neg hc1).symm.trans h
    obtain ⟨M19, hM19, h⟩ := Option.bind_eq_some_iff.mp h
    refine sp_fr.tr (sp_fr.mono (by first | decide | simp) (by first | decide | simp) (frX11_openBracket hM19)) ?_
    cases h
    exact sp_fr.refl _ _ _
set_option maxRecDepth 100000 in
theorem frX11_readPlain {F : Nat} {p : (Int32 × sp_Mem)} {M : sp_Mem} (h : fX11_readPlain F M = some p) : sp_fr [114, 115, 116, 117] ([(103, 14), (103, 15), (103, 17), (103, 16), (103, 19), (103, 18), (103, 23), (103, 26), (103, 30), (103, 29)] : List (Nat × Nat)) M p.2 := by
  unfold fX11_readPlain at h
  by_cases hc1 : (fX11_isWord M 14836) = 0
  · have h := (if_pos hc1).symm.trans h
    by_cases hc2 : (fX11_isSign M 40) = 0
    · have h := (if_pos hc2).symm.trans h
      obtain ⟨x3, hx3, h⟩ := Option.bind_eq_some_iff.mp h
      refine sp_fr.tr (sp_fr.mono (by first | decide | simp) (by first | decide | simp) (frX11_readPart hx3)) ?_
      cases h
      exact sp_fr.refl _ _ _
    · have h := (if_neg hc2).symm.trans h
      obtain ⟨M4, hM4, h⟩ := Option.bind_eq_some_iff.mp h
      refine sp_fr.tr (sp_fr.mono (by first | decide | simp) (by first | decide | simp) (frX11_openBracket hM4)) ?_
      cases h
      exact sp_fr.refl _ _ _
  · have h := (if_neg hc1).symm.trans h
    obtain ⟨M5, hM5, h⟩ := Option.bind_eq_some_iff.mp h
    refine sp_fr.tr (sp_fr.mono (by first | decide | simp) (by first | decide | simp) (frX11_push hM5)) ?_
    obtain ⟨M6, hM6, h⟩ := Option.bind_eq_some_iff.mp h
    refine sp_fr.tr (sp_fr.mono (by first | decide | simp) (by first | decide | simp) (frX11_next hM6)) ?_
    cases h
    exact sp_fr.refl _ _ _
set_option maxRecDepth 100000 in
theorem frX11_behindSum_j224 {F : Nat} {p : (Int32 × sp_Mem)} (a2 : Int32) (s0 : Int32) (M : sp_Mem) (h : fX11_behindSum_j224 F a2 s0 M = some p) : sp_fr [115, 114, 116, 117] ([(103, 14), (103, 15), (103, 17), (103, 16), (103, 19), (103, 18), (103, 29), (103, 23), (103, 30)] : List (Nat × Nat)) M p.2 := by
  unfold fX11_behindSum_j224 at h
  obtain ⟨M15, hM15, h⟩ := Option.bind_eq_some_iff.mp h
  refine sp_fr.tr (sp_fr.mono (by first | decide | simp) (by first | decide | simp) (frX11_must hM15)) ?_
  by_cases hc16 : (sp_I M15 103 19) = 0
  · have h := (if_pos hc16).symm.trans h
    obtain ⟨M17, hM17, h⟩ := Option.bind_eq_some_iff.mp h
    refine sp_fr.tr (sp_fr.mono (by first | decide | simp) (by first | decide | simp) (frX11_settle hM17)) ?_
    obtain ⟨M18, hM18, h⟩ := Option.bind_eq_some_iff.mp h
    refine sp_fr.tr (sp_fr.mono (by first | decide | simp) (by first | decide | simp) (frX11_push hM18)) ?_
    cases h
    exact sp_fr.refl _ _ _
  · have h := (if_neg hc16).symm.trans h
    cases h
    exact sp_fr.refl _ _ _
set_option maxRecDepth 100000 in
theorem frX11_behindSum_j219 {F : Nat} {p : (Int32 × sp_Mem)} (a2 : Int32) (M : sp_Mem) (h : fX11_behindSum_j219 F a2 M = some p) : sp_fr [115, 114, 116, 117] ([(103, 14), (103, 15), (103, 17), (103, 16), (103, 19), (103, 18), (103, 29), (103, 23), (103, 30)] : List (Nat × Nat)) M p.2 := by
  unfold fX11_behindSum_j219 at h
  exact frX11_behindSum_j224 _ _ _ h
set_option maxRecDepth 100000 in
theorem frX11_behindSum_j202 {F : Nat} {p : (Int32 × sp_Mem)} (s0 : Int32) (M : sp_Mem) (h : fX11_behindSum_j202 F s0 M = some p) : sp_fr [115, 114, 116, 117] ([(103, 14), (103, 15), (103, 17), (103, 16), (103, 19), (103, 18), (103, 29), (103, 23), (103, 30)] : List (Nat × Nat)) M p.2 := by
  unfold fX11_behindSum_j202 at h
  by_cases hc14 : s0 = 27
  · have h := (if_pos hc14).symm.trans h
    exact frX11_behindSum_j224 _ _ _ h
  · have h := (if_neg hc14).symm.trans h
    exact frX11_behindSum_j219 _ _ h
set_option maxRecDepth 100000 in
theorem frX11_behindSum_j163 {F : Nat} {p : (Int32 × sp_Mem)} (M : sp_Mem) (h : fX11_behindSum_j163 F M = some p) : sp_fr [115, 114, 116, 117] ([(103, 14), (103, 15), (103, 17), (103, 16), (103, 19), (103, 18), (103, 29), (103, 23), (103, 30)] : List (Nat × Nat)) M p.2 := by
  unfold fX11_behindSum_j163 at h
  obtain ⟨v10, hv10, h⟩ := Option.bind_eq_some_iff.mp h
  by_cases hc11 : v10 = 0
  · have h := (if_pos hc11).symm.trans h
    by_cases hc12 : (fX11_isSign M 60) = 0
    · have h := (if_pos hc12).symm.trans h
      exact frX11_behindSum_j202 _ _ h
    · have h := (if_neg hc12).symm.trans h
      exact frX11_behindSum_j202 _ _ h
  · have h := (if_neg hc11).symm.trans h
    cases h
    exact sp_fr.refl _ _ _
set_option maxRecDepth 100000 in
theorem frX11_behindSum_j71 {F : Nat} {p : (Int32 × sp_Mem)} (a1 : Int32) (s0 : Int32) (M : sp_Mem) (h : fX11_behindSum_j71 F a1 s0 M = some p) : sp_fr [115, 114, 116, 117] ([(103, 14), (103, 15), (103, 17), (103, 16), (103, 19), (103, 18), (103, 29), (103, 23), (103, 30)] : List (Nat × Nat)) M p.2 := by
  unfold fX11_behindSum_j71 at h
  by_cases hc6 : s0 = (-1)
  · have h := (if_pos hc6).symm.trans h
    obtain ⟨v7, hv7, h⟩ := Option.bind_eq_some_iff.mp h
    by_cases hc8 : v7 = 32
    · have h := (if_pos hc8).symm.trans h
      obtain ⟨M21, hM21, h⟩ := Option.bind_eq_some_iff.mp h
      refine sp_fr.tr (sp_fr.mono (by first | decide | simp) (by first | decide | simp) (frX11_must hM21)) ?_
      by_cases hc22 : (sp_I M21 103 19) = 0
      · have h := (if_pos hc22).symm.trans h
        obtain ⟨M23, hM23, h⟩ := Option.bind_eq_some_iff.mp h
        refine sp_fr.tr (sp_fr.mono (by first | decide | simp) (by first | decide | simp) (frX11_settle hM23)) ?_
        obtain ⟨M24, hM24, h⟩ := sp_do_e h
        refine sp_fr.tr (sp_fr_I (Or.inr (by first | decide | simp)) hM24) ?_
        obtain ⟨M25, hM25, h⟩ := sp_do_e h
        refine sp_fr.tr (sp_fr_I (Or.inr (by first | decide | simp)) hM25) ?_
        cases h
        exact sp_fr.refl _ _ _
      · have h := (if_neg hc22).symm.trans h
        cases h
        exact sp_fr.refl _ _ _
    · have h := (if_neg hc8).symm.trans h
      by_cases hc9 : v7 = (-1)
      · have h := (if_pos hc9).symm.trans h
        by_cases hc20 : a1 = 0
        · have h := (if_pos hc20).symm.trans h
          cases h
          exact sp_fr.refl _ _ _
        · have h := (if_neg hc20).symm.trans h
          exact frX11_behindSum_j163 _ h
      · have h := (if_neg hc9).symm.trans h
        exact frX11_behindSum_j163 _ h
  · have h := (if_neg hc6).symm.trans h
    obtain ⟨M26, hM26, h⟩ := Option.bind_eq_some_iff.mp h
    refine sp_fr.tr (sp_fr.mono (by first | decide | simp) (by first | decide | simp) (frX11_settle hM26)) ?_
    obtain ⟨M27, hM27, h⟩ := Option.bind_eq_some_iff.mp h
    refine sp_fr.tr (sp_fr.mono (by first | decide | simp) (by first | decide | simp) (frX11_push hM27)) ?_
    obtain ⟨M28, hM28, h⟩ := Option.bind_eq_some_iff.mp h
    refine sp_fr.tr (sp_fr.mono (by first | decide | simp) (by first | decide | simp) (frX11_next hM28)) ?_
    cases h
    exact sp_fr.refl _ _ _
set_option maxRecDepth 100000 in
theorem frX11_behindSum {F : Nat} {p : (Int32 × sp_Mem)} {M : sp_Mem} {a1 : Int32} (h : fX11_behindSum F M a1 = some p) : sp_fr [115, 114, 116, 117] ([(103, 14), (103, 15), (103, 17), (103, 16), (103, 19), (103, 18), (103, 29), (103, 23), (103, 30)] : List (Nat × Nat)) M p.2 := by
  unfold fX11_behindSum at h
  by_cases hc1 : (fX11_isSign M 43) = 0
  · have h := (if_pos hc1).symm.trans h
    by_cases hc2 : (fX11_isSign M 45) = 0
    · have h := (if_pos hc2).symm.trans h
      by_cases hc3 : (fX11_isSign M 42) = 0
      · have h := (if_pos hc3).symm.trans h
        by_cases hc4 : (fX11_isSign M 47) = 0
        · have h := (if_pos hc4).symm.trans h
          exact frX11_behindSum_j71 _ _ _ h
        · have h := (if_neg hc4).symm.trans h
          exact frX11_behindSum_j71 _ _ _ h
      · have h := (if_neg hc3).symm.trans h
        exact frX11_behindSum_j71 _ _ _ h
    · have h := (if_neg hc2).symm.trans h
      exact frX11_behindSum_j71 _ _ _ h
  · have h := (if_neg hc1).symm.trans h
    exact frX11_behindSum_j71 _ _ _ h
