/-! ===== drift, sodden: the reference, and both ===== -/
section DriftR
variable {F : Nat} {r : Nat → Int32}
theorem lay_e {a x : Nat} {a2 : Int32} {kx : Int32 → sp_Mem → Option sp_Mem} (ha : a < 6) (hx : x < 25) (ex : r (9 + a) = nI x) : ∀ (m i k : Nat) (M : sp_Mem), i + m = 25 → m < k → (∀ j, sp_I M 105 j = r j) → ∃ M', fX11_layDrift_l2 F kx k (nI a) a2 (nI i) M = kx a2 M' ∧ sp_fr [127] [] M M' ∧ (∀ j, i ≤ j → j < 25 → sp_L M' 127 j = upL (fun _ => 0) x 1000000000000 j) ∧ ∀ j, j < i → sp_L M' 127 j = sp_L M 127 j := by
  intro m
  induction m with
  | zero =>
    intro i k M hi hk hr
    obtain ⟨k, rfl⟩ : ∃ m, k = m + 1 := ⟨k - 1, by omega⟩
    refine ⟨M, ?_, sp_fr.refl _ _ _, fun j h1 h2 => absurd h1 (by omega), fun _ _ => rfl⟩
    rw [fX11_layDrift_l2, show i = 25 by omega, if_pos (by decide)]
  | succ m ih =>
    intro i k M hi hk hr
    obtain ⟨k, rfl⟩ : ∃ m, k = m + 1 := ⟨k - 1, by omega⟩
    obtain ⟨M', e1, e2, e3, e4⟩ := ih (i + 1) k (sp_setL M 127 i (upL (fun _ => 0) x 1000000000000 i)) (by omega) (by omega) hr
    refine ⟨M', ?_, (sp_fr_L (Or.inl (by simp)) rfl).tr e2, fun j h1 h2 => ?_, fun j hj => ?_⟩
    · rw [fX11_layDrift_l2, if_neg (le25 i (by omega)), show (9 : Int32) + nI a = nI (9 + a) from nI_add 9 a, sp_ix_nI (show 9 + a < 5480 by omega) (by omega), Option.bind_some, hr, ex, sp_ix_nI (show i < 25 by omega) (by omega), Option.bind_some, Option.bind_some, nI_1]
      by_cases q : i = x
      · rw [if_pos (by rw [q])]
        rw [show upL (fun _ => 0) x 1000000000000 i = 1000000000000 from if_pos q] at e1
        exact e1
      · rw [if_neg (fun z => q (by have := congrArg Int32.toInt z; rw [nI_toInt (by omega), nI_toInt (by omega)] at this; omega))]
        rw [show upL (fun _ => 0) x 1000000000000 i = 0 from if_neg q] at e1
        exact e1
    · by_cases q : i + 1 ≤ j
      · exact e3 j q h2
      · rw [e4 j (by omega), show j = i by omega, L_eq]
    · rw [e4 j (by omega), L_nf _ _ _ (by omega)]
theorem l60_e {a2 a3 a4 : Int32} {kx : Int32 → Int32 → Int32 → sp_Mem → Option sp_Mem} : ∀ (m i k : Nat) (M : sp_Mem), i + m = 25 → m < k → ∃ M', fX11_layDrift_l60 F kx k a2 a3 a4 (nI i) M = kx a2 a3 a4 M' ∧ sp_fr [128] [] M M' ∧ (∀ j, i ≤ j → j < 25 → sp_L M' 128 j = 0) ∧ ∀ j, j < i → sp_L M' 128 j = sp_L M 128 j := by
  intro m
  induction m with
  | zero =>
    intro i k M hi hk
    obtain ⟨k, rfl⟩ : ∃ m, k = m + 1 := ⟨k - 1, by omega⟩
    refine ⟨M, ?_, sp_fr.refl _ _ _, fun j h1 h2 => absurd h1 (by omega), fun _ _ => rfl⟩
    rw [fX11_layDrift_l60, show i = 25 by omega, if_pos (by decide)]
  | succ m ih =>
    intro i k M hi hk
    obtain ⟨k, rfl⟩ : ∃ m, k = m + 1 := ⟨k - 1, by omega⟩
    obtain ⟨M', e1, e2, e3, e4⟩ := ih (i + 1) k (sp_setL M 128 i 0) (by omega) (by omega)
    refine ⟨M', ?_, (sp_fr_L (Or.inl (by simp)) rfl).tr e2, fun j h1 h2 => ?_, fun j hj => ?_⟩
    · rw [fX11_layDrift_l60, if_neg (le25 i (by omega)), sp_ix_nI (show i < 25 by omega) (by omega), Option.bind_some, nI_1]
      exact e1
    · by_cases q : i + 1 ≤ j
      · exact e3 j q h2
      · rw [e4 j (by omega), show j = i by omega, L_eq]
    · rw [e4 j (by omega), L_nf _ _ _ (by omega)]
theorem l200_e {a2 a3 a4 : Int32} {kx : Int32 → Int32 → Int32 → sp_Mem → Option sp_Mem} {y : Nat → Int64} : ∀ (m i k : Nat) (M : sp_Mem), i + m = 25 → m < k → (∀ j, j < 25 → sp_L M 128 j = y j) → ∃ M', fX11_layDrift_l200 F kx k a2 a3 a4 (nI i) M = kx a2 a3 a4 M' ∧ sp_fr [127] [] M M' ∧ (∀ j, i ≤ j → j < 25 → sp_L M' 127 j = y j) ∧ ∀ j, j < i → sp_L M' 127 j = sp_L M 127 j := by
  intro m
  induction m with
  | zero =>
    intro i k M hi hk hy
    obtain ⟨k, rfl⟩ : ∃ m, k = m + 1 := ⟨k - 1, by omega⟩
    refine ⟨M, ?_, sp_fr.refl _ _ _, fun j h1 h2 => absurd h1 (by omega), fun _ _ => rfl⟩
    rw [fX11_layDrift_l200, show i = 25 by omega, if_pos (by decide)]
  | succ m ih =>
    intro i k M hi hk hy
    obtain ⟨k, rfl⟩ : ∃ m, k = m + 1 := ⟨k - 1, by omega⟩
    obtain ⟨M', e1, e2, e3, e4⟩ := ih (i + 1) k (sp_setL M 127 i (sp_L M 128 i)) (by omega) (by omega) (fun j hj => by rw [sp_L_setL, if_neg (fun z => absurd z.1 (by decide))]; exact hy j hj)
    refine ⟨M', ?_, (sp_fr_L (Or.inl (by simp)) rfl).tr e2, fun j h1 h2 => ?_, fun j hj => ?_⟩
    · rw [fX11_layDrift_l200, if_neg (le25 i (by omega)), sp_ix_nI (show i < 25 by omega) (by omega), Option.bind_some, Option.bind_some, nI_1]
      exact e1
    · by_cases q : i + 1 ≤ j
      · exact e3 j q h2
      · rw [e4 j (by omega), show j = i by omega, L_eq]
        exact hy i (by omega)
    · rw [e4 j (by omega), L_nf _ _ _ (by omega)]
theorem dI_r {a : Nat} {x : Int64} {a2 a3 a4 : Int32} {kx : Int32 → Int32 → Int32 → Int32 → Int64 → sp_Mem → Option sp_Mem} (ha : a < 25) : ∀ (m w k : Nat) (M : sp_Mem) (y : Nat → Int64) (l : Int64), w + m = 5 → m < k → (∀ j, sp_I M 105 j = r j) → (∀ j, j < 25 → sp_L M 128 j = y j) → ∃ M', fX11_layDrift_l119 F kx k a2 a3 a4 (nI a) x l (nI w) M = kx a2 a3 a4 (nI a) (dsI (fun j => r (26 + j)) a x m w y l).2 M' ∧ sp_fr [128] [] M M' ∧ ∀ j, j < 25 → sp_L M' 128 j = (dsI (fun j => r (26 + j)) a x m w y l).1 j := by
  intro m
  induction m with
  | zero =>
    intro w k M y l hw hk hr hL
    obtain ⟨k, rfl⟩ : ∃ m, k = m + 1 := ⟨k - 1, by omega⟩
    refine ⟨M, ?_, sp_fr.refl _ _ _, hL⟩
    rw [fX11_layDrift_l119, show w = 5 by omega, if_pos (by decide)]
    rfl
  | succ m ih =>
    intro w k M y l hw hk hr hL
    obtain ⟨k, rfl⟩ : ∃ m, k = m + 1 := ⟨k - 1, by omega⟩
    rw [fX11_layDrift_l119, if_neg (le4 w (by omega)).2, (stp_e a ha w (by omega)).2.1, Option.bind_some]
    cases hs : stp a w with
    | none =>
      obtain ⟨M', e1, e2, e3⟩ := ih (w + 1) k M y l (by omega) (by omega) hr hL
      refine ⟨M', ?_, e2, ?_⟩
      · rw [if_pos (by decide), nI_1, e1]
        simp only [dsI, hs]
      · simp only [dsI, hs]; exact e3
    | some c =>
      have hc := stp_lt ha (show w < 5 by omega) hs
      rw [show oN (some c) = nI c from rfl, if_neg (nI_m1 (by omega)), show (26 : Int32) + nI c = nI (26 + c) from nI_add 26 c, sp_ix_nI (show 26 + c < 5480 by omega) (by omega), Option.bind_some, hr, nI_1]
      by_cases h3 : r (26 + c) = 3
      · obtain ⟨M', e1, e2, e3⟩ := ih (w + 1) k M y l (by omega) (by omega) hr hL
        refine ⟨M', ?_, e2, ?_⟩
        · rw [if_pos h3, e1]
          simp only [dsI, hs, h3, if_true]
        · simp only [dsI, hs, h3, if_true]; exact e3
      · rw [if_neg h3, sp_ix_nI hc (by omega), Option.bind_some, Option.bind_some]
        obtain ⟨M', e1, e2, e3⟩ := ih (w + 1) k (sp_setL M 128 c (sp_L M 128 c + x)) (upL y c (sp_L M 128 c + x)) (l - x) (by omega) (by omega) hr (rel_set hL _ _)
        rw [hL c hc] at e1 e2 e3 ⊢
        refine ⟨M', ?_, (sp_fr_L (Or.inl (by simp)) rfl).tr e2, ?_⟩
        · simp only [dsI, hs, h3, if_false]
          exact e1
        · simp only [dsI, hs, h3, if_false]; exact e3
theorem dO_r {d : Nat → Int64} {a2 s a4 : Int32} {kx : Int32 → Int32 → Int32 → sp_Mem → Option sp_Mem} (hF : 1000 ≤ F) : ∀ (m i k : Nat) (M : sp_Mem) (y : Nat → Int64), i + m = 25 → m < k → (∀ j, sp_I M 105 j = r j) → (∀ j, j < 25 → sp_L M 127 j = d j) → (∀ j, j < 25 → sp_L M 128 j = y j) → ∃ M', fX11_layDrift_l84 F kx k a2 s a4 (nI i) M = kx a2 s a4 M' ∧ sp_fr [128] [] M M' ∧ ∀ j, j < 25 → sp_L M' 128 j = dsO (fun j => r (26 + j)) (Int32.toInt64 s) d m i y j := by
  intro m
  induction m with
  | zero =>
    intro i k M y hi hk hr hD hY
    obtain ⟨k, rfl⟩ : ∃ m, k = m + 1 := ⟨k - 1, by omega⟩
    refine ⟨M, ?_, sp_fr.refl _ _ _, hY⟩
    rw [fX11_layDrift_l84, show i = 25 by omega, if_pos (by decide)]
  | succ m ih =>
    intro i k M y hi hk hr hD hY
    obtain ⟨k, rfl⟩ : ∃ m, k = m + 1 := ⟨k - 1, by omega⟩
    have hi5 : i < 25 := by omega
    rw [fX11_layDrift_l84, if_neg (le25 i hi5)]
    simp only [sp_do, Option.bind_some, sp_ix_nI hi5 (show 25 < 2147483648 by omega), hD i hi5]
    obtain ⟨M1, e1, e2, e3⟩ := dI_r (F := F) (r := r) (x := d i * Int32.toInt64 s / 10) (a2 := a2) (a3 := s) (a4 := a4) (kx := fun b33 b34 b35 b36 b37 M32 => (sp_ix 25 b36).bind fun j38 => (sp_ix 25 b36).bind fun j39 => (fX11_layDrift_l84 F kx k) b33 b34 b35 (b36 + 1) (sp_setL M32 128 j39 ((sp_L M32 128 j38) + b37))) hi5 4 1 F M y (d i) (by omega) (by omega) hr hY
    obtain ⟨M2, f1, f2, f3⟩ := ih (i + 1) k (sp_setL M1 128 i (sp_L M1 128 i + (dsI (fun j => r (26 + j)) i (d i * Int32.toInt64 s / 10) 4 1 y (d i)).2)) (upL (dsI (fun j => r (26 + j)) i (d i * Int32.toInt64 s / 10) 4 1 y (d i)).1 i (sp_L M1 128 i + (dsI (fun j => r (26 + j)) i (d i * Int32.toInt64 s / 10) 4 1 y (d i)).2)) (by omega) (by omega) (fun j => (e2.1 105 j (by simp) (by simp)).trans (hr j)) (fun j hj => by
      rw [sp_L_setL, if_neg (fun z => absurd z.1 (by decide))]
      exact (e2.2.1 127 j (by simp) (by simp)).trans (hD j hj)) (rel_set e3 _ _)
    refine ⟨M2, ?_, e2.tr ((sp_fr_L (Or.inl (by simp)) rfl).tr f2), ?_⟩
    · refine e1.trans ?_
      rw [sp_ix_nI hi5 (by omega), Option.bind_some, Option.bind_some, nI_1]
      exact f1
    · rw [e3 i hi5] at f3
      exact f3
theorem for_r {q : Nat} {s : Int32} (hF : 1000 ≤ F) (hq : q < 100) : ∀ (m i k : Nat) (M : sp_Mem) (d : Nat → Int64), i + m = q → m < k → (∀ j, sp_I M 105 j = r j) → (∀ j, j < 25 → sp_L M 127 j = d j) → ∃ M', fX11_layDrift_l51 F (fun M53 => some M53) k (nI q) s (nI i) M = some M' ∧ ∀ j, j < 25 → sp_L M' 127 j = dsN (fun j => r (26 + j)) (Int32.toInt64 s) m d j := by
  intro m
  induction m with
  | zero =>
    intro i k M d hi hk hr hD
    obtain ⟨k, rfl⟩ : ∃ m, k = m + 1 := ⟨k - 1, by omega⟩
    refine ⟨M, ?_, hD⟩
    rw [fX11_layDrift_l51, if_pos (nI_le (by omega) (by omega))]
  | succ m ih =>
    intro i k M d hi hk hr hD
    obtain ⟨k, rfl⟩ : ∃ m, k = m + 1 := ⟨k - 1, by omega⟩
    rw [fX11_layDrift_l51, if_neg (nI_ge (by omega) (by omega))]
    obtain ⟨M1, e1, e2, e3, _⟩ := l60_e (F := F) (a2 := nI q) (a3 := s) (a4 := nI i) (kx := fun b16 b17 b18 M15 => fX11_layDrift_l84 F (fun b42 b43 b44 M41 => fX11_layDrift_l200 F (fun b50 b51 b52 M49 => (fX11_layDrift_l51 F (fun M53 => some M53) k) b50 b51 (b52 + 1) M49) F b42 b43 b44 0 M41) F b16 b17 b18 0 M15) 25 0 F M (by omega) (by omega)
    have hr1 : ∀ j, sp_I M1 105 j = r j := fun j => (e2.1 105 j (by simp) (by simp)).trans (hr j)
    obtain ⟨M2, f1, f2, f3⟩ := dO_r (F := F) (r := r) (d := d) (a2 := nI q) (s := s) (a4 := nI i) (kx := fun b42 b43 b44 M41 => fX11_layDrift_l200 F (fun b50 b51 b52 M49 => (fX11_layDrift_l51 F (fun M53 => some M53) k) b50 b51 (b52 + 1) M49) F b42 b43 b44 0 M41) hF 25 0 F M1 (fun _ => 0) (by omega) (by omega) hr1 (fun j hj => (e2.2.1 127 j (by simp) (by simp)).trans (hD j hj)) (fun j hj => e3 j (by omega) hj)
    have hr2 : ∀ j, sp_I M2 105 j = r j := fun j => (f2.1 105 j (by simp) (by simp)).trans (hr1 j)
    obtain ⟨M3, g1, g2, g3, _⟩ := l200_e (F := F) (a2 := nI q) (a3 := s) (a4 := nI i) (kx := fun b50 b51 b52 M49 => (fX11_layDrift_l51 F (fun M53 => some M53) k) b50 b51 (b52 + 1) M49) 25 0 F M2 (by omega) (by omega) f3
    obtain ⟨M4, h1, h2⟩ := ih (i + 1) k M3 _ (by omega) (by omega) (fun j => (g2.1 105 j (by simp) (by simp)).trans (hr2 j)) (fun j hj => g3 j (by omega) hj)
    refine ⟨M4, (e1.trans (f1.trans (g1.trans ?_))), h2⟩
    rw [nI_1]
    exact h1
theorem layDrift_r {M : sp_Mem} {a x q : Nat} (hF : 1000 ≤ F) (hq : q < 100) (ha : a < 6) (hx : x < 25) (ex : r (9 + a) = nI x) (hr : ∀ j, sp_I M 105 j = r j) : ∃ M', fX11_layDrift F M (nI a) (nI q) = some M' ∧ ∀ j, j < 25 → sp_L M' 127 j = dsN (fun j => r (26 + j)) (Int32.toInt64 (r 6)) q (upL (fun _ => 0) x 1000000000000) j := by
  obtain ⟨M1, e1, e2, e3, _⟩ := lay_e (F := F) (a2 := nI q) (kx := fun b9 M8 => sp_do ((sp_I M8 105 6)) fun u10 => fX11_layDrift_l51 F (fun M53 => some M53) F b9 u10 0 M8) ha hx ex 25 0 F M (by omega) (by omega) hr
  have hr1 : ∀ j, sp_I M1 105 j = r j := fun j => (e2.1 105 j (by simp) (by simp)).trans (hr j)
  obtain ⟨M2, f1, f2⟩ := for_r (F := F) (r := r) (s := r 6) hF hq q 0 F M1 _ (by omega) (by omega) hr1 (fun j hj => e3 j (by omega) hj)
  refine ⟨M2, e1.trans ?_, f2⟩
  simp only [sp_do]
  rw [hr1]
  exact f1
theorem lk_c {M : sp_Mem} {c : Nat} {d : Nat → Int64} (hP : sp_P M 77 2 = some c) (hD : ∀ j, j < 25 → sp_L M c j = d j) : ∀ (m i k b : Nat), i + m = 25 → m < k → b < 25 → fX1_likeliestCell_l4 F M (fun b8 => some b8) k (nI b) (nI i) = some (nI (lk d m i b)) := by
  intro m
  induction m with
  | zero =>
    intro i k b hi hk hb
    obtain ⟨k, rfl⟩ : ∃ m, k = m + 1 := ⟨k - 1, by omega⟩
    rw [fX1_likeliestCell_l4, show i = 25 by omega, if_pos (by decide)]
    rfl
  | succ m ih =>
    intro i k b hi hk hb
    obtain ⟨k, rfl⟩ : ∃ m, k = m + 1 := ⟨k - 1, by omega⟩
    rw [fX1_likeliestCell_l4, if_neg (le25 i (by omega)), hP, Option.bind_some, sp_ix_nI (show i < 25 by omega) (by omega), Option.bind_some, Option.bind_some, sp_ix_nI hb (by omega), Option.bind_some, hD i (by omega), hD b hb, nI_1]
    rw [lk]
    by_cases h : d i ≤ d b
    · rw [if_pos h, if_pos h]; exact ih (i + 1) k b (by omega) (by omega) hb
    · rw [if_neg h, if_neg h]; exact ih (i + 1) k i (by omega) (by omega) (by omega)
theorem lk_r {M : sp_Mem} {d : Nat → Int64} (hD : ∀ j, j < 25 → sp_L M 127 j = d j) : ∀ (m i k b : Nat), i + m = 25 → m < k → b < 25 → fX11_sodden_l46 F (fun b14 M13 => some (b14, M13)) k (nI b) (nI i) M = some (nI (lk d m i b), M) := by
  intro m
  induction m with
  | zero =>
    intro i k b hi hk hb
    obtain ⟨k, rfl⟩ : ∃ m, k = m + 1 := ⟨k - 1, by omega⟩
    rw [fX11_sodden_l46, show i = 25 by omega, if_pos (by decide)]
    rfl
  | succ m ih =>
    intro i k b hi hk hb
    obtain ⟨k, rfl⟩ : ∃ m, k = m + 1 := ⟨k - 1, by omega⟩
    rw [fX11_sodden_l46, if_neg (le25 i (by omega)), sp_ix_nI (show i < 25 by omega) (by omega), Option.bind_some, sp_ix_nI hb (by omega), Option.bind_some, hD i (by omega), hD b hb, nI_1]
    simp only [sp_do]
    rw [lk]
    by_cases h : d i ≤ d b
    · rw [if_pos h, if_pos h]; exact ih (i + 1) k b (by omega) (by omega) hb
    · rw [if_neg h, if_neg h]; exact ih (i + 1) k i (by omega) (by omega) (by omega)
end DriftR
section DriftOp
variable {F k : Nat} {M : sp_Mem}
/-- both drifts, one after the other -/
theorem drift_e {a x q : Nat} (hF : 1000 ≤ F) (hI : Inv k M) (hq : q < 100) (ha : a < 6) (hx : x < 25) (ex : rM M (9 + a) = nI x) : ∃ (d : Nat → Int64) (M1 M2 : sp_Mem) (c : Nat), fX1_driftFor F M 6 (nI a) (nI q) = some M1 ∧ sp_P M1 77 2 = some c ∧ (∀ j, j < 25 → sp_L M1 c j = d j) ∧ (∀ j, sp_I (sp_setI M1 103 0 0) 105 j = rM M j) ∧ fX11_layDrift F (sp_setI M1 103 0 0) (nI a) (nI q) = some M2 ∧ (∀ j, j < 25 → sp_L M2 127 j = d j) ∧ Inv (k + 1) M2 := by
  have hR := hI.2.1.1
  obtain ⟨M1, b, c, e1, e2, hb, hc, hbc, p2, p3, e3⟩ := driftFor_c (F := F) (kd := fun j => rM M (26 + j)) (s := rM M 6) hF hI.1 hI.2.2.2.2.2.2.2.1.2.2.2.2 hq ha hx ((rm_cell hR ha).trans ex) (fun j hj => rm_kind hR hj) (rm_term hR (show 1 < 4 by omega))
  have hr : ∀ j, sp_I (sp_setI M1 103 0 0) 105 j = rM M j := fun j => by
    rw [I_ne _ _ _ (by decide)]
    exact e2.1 105 j (by decide) (by simp)
  obtain ⟨M2, f1, f2⟩ := layDrift_r (F := F) (r := rM M) hF hq ha hx ex hr
  have g1 := frX11_layDrift f1
  refine ⟨_, M1, M2, c, e1, p2, e3, hr, f1, f2, ?_⟩
  have hfr : sp_fr [90, 91, 127, 128] [(77, 2), (77, 3), (103, 0)] M M2 := ((e2.mono (by decide) (by decide)).tr (sp_fr_I (Or.inr (by decide)) rfl)).tr (g1.mono (by decide) (by decide))
  have q2 : ∀ j, sp_P M2 77 j = sp_P M1 77 j := fun j => g1.2.2.1 77 j (by decide) (by simp)
  have hC := hI.2.2.2.2.2.2.2.1
  refine Inv_step2 hfr hI (by decide +kernel) (Or.inr ?_) (Or.inl (by decide +kernel)) (Or.inl (by decide +kernel)) (Or.inl (by decide +kernel)) (Or.inl (by decide +kernel)) (Or.inl (by decide +kernel)) (Or.inl (by decide +kernel)) ?_
  · refine WS_fr hfr (by decide +kernel) (by decide +kernel) ⟨c, hc, (q2 2).trans p2⟩ ⟨b, hb, (q2 3).trans p3⟩ (fun o ho j t h => ?_) hI.1
    refine hI.1.2.2.2.2.2.2 o ho j t ?_
    rw [← h]
    refine (hfr.2.2.1 (o + 11) j ?_ ?_).symm
    · rcases ho with rfl | rfl | rfl | rfl | rfl | rfl <;> decide
    · rcases ho with rfl | rfl | rfl | rfl | rfl | rfl <;> simp
  · refine ⟨fun j hj => ?_, fun j hj => ?_, fun j hj => ?_, fun j hj => ?_, ?_⟩
    · rw [hfr.2.1 118 j (by decide) (by simp)]; exact hC.1 j hj
    · rw [hfr.2.1 119 j (by decide) (by simp)]; exact hC.2.1 j hj
    · rw [hfr.2.1 120 j (by decide) (by simp)]; exact hC.2.2.1 j hj
    · rw [hfr.2.1 129 j (by decide) (by simp)]; exact hC.2.2.2.1 j hj
    · rw [q2, q2, p2, p3]
      intro z
      exact hbc (Option.some.inj z)
theorem op_33 (hF : 1000 ≤ F) (hI : Inv k M) (w1 w2 w3 : Int32) : ∃ p, gL_33 F M w1 w2 w3 = some p ∧ Inv (k + 1) p := by
  obtain ⟨lf, n, hC, hX⟩ := Inv_X hF hI
  have h6 := hC.2.2.2.2.2.2.2
  have hR := hC.2.2.2.1
  have hn := hC.2.2.2.2.2.2.1
  have hB := hC.2.2.2.2.1.2
  have X0 := RX_00 hX
  have none_ : ∀ (_ : fX10_drift F M w1 w2 w3 = some (-1, M)) (_ : fX11_drift F M w1 w2 w3 = some (-1, sp_setI M 103 0 0)), ∃ p, gL_33 F M w1 w2 w3 = some p ∧ Inv (k + 1) p := fun h1 h2 => ⟨_, glue (b := fun M1 => fX11_drift F M1 w1 w2 w3) h1 h2, Inv_thrown hI⟩
  by_cases hs : 0 ≤ w1.toInt ∧ w1.toInt < n
  · obtain ⟨s, hs', rfl⟩ := n_of hs.1 hs.2
    by_cases h2 : 0 ≤ w2.toInt ∧ w2.toInt ≤ 60
    · obtain ⟨q, hq, rfl⟩ := n_of (n := 61) h2.1 (by omega)
      by_cases h3 : 0 ≤ w3.toInt ∧ w3.toInt < 25
      · obtain ⟨z, hz, rfl⟩ := n_of (n := 25) h3.1 (by omega)
        rcases bt_cell hB (show s < 6 by omega) with hm | ⟨x, hx, ex⟩
        · refine none_ ?_ ?_
          · unfold fX10_drift fX5_hasLoose
            rw [if_neg (by rw [has_s (show n < 100 by omega) ((rm_s hR).trans hn)]; simpa using hs), sp_ix_nI (show s < 6 by omega) (by omega), Option.bind_some, Option.bind_some, show sp_I M (6 + 2) s = rM M (9 + s) from rm_cell hR (show s < 6 by omega), if_pos hm, if_pos rfl]
          · unfold fX11_drift
            simp only [sp_do]
            rw [RX_s X0, if_pos hs, Option.bind_some, if_neg (by decide), if_neg (by rw [m_in, n_l]; simpa using h2), if_neg (by rw [m_cell]; simpa using h3), RX_l X0 (by omega), Option.bind_some, if_pos hm, if_pos rfl]
        · have hl : ¬ rM M (9 + s) = -1 := by rw [ex]; exact nI_m1 (by omega)
          obtain ⟨d, M1, M2, c, e1, e2, e3, hr, e4, e5, e6⟩ := drift_e hF hI (show q < 100 by omega) (show s < 6 by omega) hx ex
          refine ⟨M2, ?_, e6⟩
          refine glue (b := fun M1 => fX11_drift F M1 (nI s) (nI q) (nI z)) (v := d z) (M1 := M1) ?_ ?_
          · unfold fX10_drift fX5_hasLoose fX1_driftedTo
            rw [if_neg (by rw [has_s (show n < 100 by omega) ((rm_s hR).trans hn)]; simpa using hs), sp_ix_nI (show s < 6 by omega) (by omega), Option.bind_some, Option.bind_some, show sp_I M (6 + 2) s = rM M (9 + s) from rm_cell hR (show s < 6 by omega), if_neg hl, if_neg (by decide), if_neg (by rw [w_in]; simpa using h2), cel_e z hz, if_neg (by decide), e1, Option.bind_some, if_neg (by decide), e2, Option.bind_some, sp_ix_nI hz (by omega), Option.bind_some, Option.bind_some, e3 z hz]
          · unfold fX11_drift fX11_isLoose
            simp only [sp_do]
            rw [is_s (show n < 100 by omega) ((hr 0).trans hn), if_pos hs, Option.bind_some, if_neg (by decide), if_neg (by rw [m_in, n_l]; simpa using h2), if_neg (by rw [m_cell]; simpa using h3), show (9 : Int32) + nI s = nI (9 + s) from nI_add 9 s, sp_ix_nI (show 9 + s < 5480 by omega) (by omega), Option.bind_some, Option.bind_some, hr, if_neg hl, if_neg (by decide), e4, Option.bind_some, sp_ix_nI hz (by omega), Option.bind_some, e5 z hz]
      · refine none_ ?_ ?_
        · unfold fX10_drift fX5_hasLoose
          rw [if_neg (by rw [has_s (show n < 100 by omega) ((rm_s hR).trans hn)]; simpa using hs), sp_ix_nI (show s < 6 by omega) (by omega), Option.bind_some, Option.bind_some, if_neg (show ¬ fX10_isWithin (nI q) 0 60 = 0 by rw [w_in]; simpa using h2), if_pos (show fX10_isCell w3 = 0 by rw [w_cell]; exact h3), ite_self]
        · unfold fX11_drift
          simp only [sp_do]
          rw [RX_s X0, if_pos hs, Option.bind_some, if_neg (by decide), if_neg (by rw [m_in, n_l]; simpa using h2), if_pos (by rw [m_cell]; exact h3)]
    · refine none_ ?_ ?_
      · unfold fX10_drift fX5_hasLoose
        rw [if_neg (by rw [has_s (show n < 100 by omega) ((rm_s hR).trans hn)]; simpa using hs), sp_ix_nI (show s < 6 by omega) (by omega), Option.bind_some, Option.bind_some, if_pos (show fX10_isWithin w2 0 60 = 0 by rw [w_in]; exact h2), ite_self]
      · unfold fX11_drift
        simp only [sp_do]
        rw [RX_s X0, if_pos hs, Option.bind_some, if_neg (by decide), if_pos (by rw [m_in, n_l]; exact h2)]
  · refine none_ ?_ ?_
    · unfold fX10_drift fX5_hasLoose
      rw [if_pos (by rw [has_s (show n < 100 by omega) ((rm_s hR).trans hn)]; exact hs), Option.bind_some, if_pos rfl]
    · unfold fX11_drift
      simp only [sp_do]
      rw [RX_s X0, if_neg hs, Option.bind_some, if_pos rfl]
theorem op_34 (hF : 1000 ≤ F) (hI : Inv k M) (w1 w2 : Int32) : ∃ p, gL_34 F M w1 w2 = some p ∧ Inv (k + 1) p := by
  obtain ⟨lf, n, hC, hX⟩ := Inv_X hF hI
  have h6 := hC.2.2.2.2.2.2.2
  have hR := hC.2.2.2.1
  have hn := hC.2.2.2.2.2.2.1
  have hB := hC.2.2.2.2.1.2
  have X0 := RX_00 hX
  have none_ : ∀ (_ : fX10_sodden F M w1 w2 = some (-1, M)) (_ : fX11_sodden F M w1 w2 = some (-1, sp_setI M 103 0 0)), ∃ p, gL_34 F M w1 w2 = some p ∧ Inv (k + 1) p := fun h1 h2 => ⟨_, glue (b := fun M1 => fX11_sodden F M1 w1 w2) h1 h2, Inv_thrown hI⟩
  by_cases hs : 0 ≤ w1.toInt ∧ w1.toInt < n
  · obtain ⟨s, hs', rfl⟩ := n_of hs.1 hs.2
    by_cases h2 : 0 ≤ w2.toInt ∧ w2.toInt ≤ 60
    · obtain ⟨q, hq, rfl⟩ := n_of (n := 61) h2.1 (by omega)
      rcases bt_cell hB (show s < 6 by omega) with hm | ⟨x, hx, ex⟩
      · refine none_ ?_ ?_
        · unfold fX10_sodden fX5_hasLoose
          rw [if_neg (by rw [has_s (show n < 100 by omega) ((rm_s hR).trans hn)]; simpa using hs), sp_ix_nI (show s < 6 by omega) (by omega), Option.bind_some, Option.bind_some, show sp_I M (6 + 2) s = rM M (9 + s) from rm_cell hR (show s < 6 by omega), if_pos hm, if_pos rfl]
        · unfold fX11_sodden
          simp only [sp_do]
          rw [RX_s X0, if_pos hs, Option.bind_some, if_neg (by decide), if_neg (by rw [m_in, n_l]; simpa using h2), RX_l X0 (by omega), Option.bind_some, if_pos hm, if_pos rfl]
      · have hl : ¬ rM M (9 + s) = -1 := by rw [ex]; exact nI_m1 (by omega)
        obtain ⟨d, M1, M2, c, e1, e2, e3, hr, e4, e5, e6⟩ := drift_e hF hI (show q < 100 by omega) (show s < 6 by omega) hx ex
        refine ⟨M2, ?_, e6⟩
        refine glue (b := fun M1 => fX11_sodden F M1 (nI s) (nI q)) (v := nI (lk d 24 1 0)) (M1 := M1) ?_ ?_
        · unfold fX10_sodden fX5_hasLoose fX1_likeliestCell
          rw [if_neg (by rw [has_s (show n < 100 by omega) ((rm_s hR).trans hn)]; simpa using hs), sp_ix_nI (show s < 6 by omega) (by omega), Option.bind_some, Option.bind_some, show sp_I M (6 + 2) s = rM M (9 + s) from rm_cell hR (show s < 6 by omega), if_neg hl, if_neg (by decide), if_neg (by rw [w_in]; simpa using h2), e1, Option.bind_some, show (0 : Int32) = nI 0 from rfl, show (1 : Int32) = nI 1 from rfl, lk_c e2 e3 24 1 F 0 (by omega) (by omega) (by omega), Option.bind_some]
        · unfold fX11_sodden fX11_isLoose
          simp only [sp_do]
          rw [is_s (show n < 100 by omega) ((hr 0).trans hn), if_pos hs, Option.bind_some, if_neg (by decide), if_neg (by rw [m_in, n_l]; simpa using h2), show (9 : Int32) + nI s = nI (9 + s) from nI_add 9 s, sp_ix_nI (show 9 + s < 5480 by omega) (by omega), Option.bind_some, Option.bind_some, hr, if_neg hl, if_neg (by decide), e4, Option.bind_some]
          exact lk_r e5 24 1 F 0 (by omega) (by omega) (by omega)
    · refine none_ ?_ ?_
      · unfold fX10_sodden fX5_hasLoose
        rw [if_neg (by rw [has_s (show n < 100 by omega) ((rm_s hR).trans hn)]; simpa using hs), sp_ix_nI (show s < 6 by omega) (by omega), Option.bind_some, Option.bind_some, if_pos (show fX10_isWithin w2 0 60 = 0 by rw [w_in]; exact h2), ite_self]
      · unfold fX11_sodden
        simp only [sp_do]
        rw [RX_s X0, if_pos hs, Option.bind_some, if_neg (by decide), if_pos (by rw [m_in, n_l]; exact h2)]
  · refine none_ ?_ ?_
    · unfold fX10_sodden fX5_hasLoose
      rw [if_pos (by rw [has_s (show n < 100 by omega) ((rm_s hR).trans hn)]; exact hs), Option.bind_some, if_pos rfl]
    · unfold fX11_sodden
      simp only [sp_do]
      rw [RX_s X0, if_neg hs, Option.bind_some, if_pos rfl]
end DriftOp
