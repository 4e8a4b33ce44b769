/-! ===== all together ===== -/
theorem mm_row : ∀ i, i < 79 → rowOf mm_311 6 i = sp_I mm_311 105 i := by decide +kernel
theorem mm_bnd : ∀ i, i < 79 → 5 ≤ i → lo i ≤ (sp_I mm_311 105 i).toInt ∧ (sp_I mm_311 105 i).toInt ≤ hi i := by decide +kernel
theorem mm_r0 : sp_I mm_311 105 0 = nI 0 ∧ sp_I mm_311 105 1 = nI 0 ∧ sp_I mm_311 105 2 = nI 0 ∧ sp_I mm_311 105 3 = nI 0 ∧ sp_I mm_311 105 4 = -1 := by decide +kernel
theorem mm_u : sp_I mm_311 18 3 = 0 ∧ sp_I mm_311 103 8 = 0 ∧ sp_I mm_311 18 2 = nI 0 := by decide +kernel
theorem mm_t : sp_I mm_311 94 1 = 0 ∧ sp_I mm_311 103 13 = 0 := by decide +kernel
theorem mm_m : (∀ i, i < 7 → sp_I mm_311 102 i = sp_I mm_311 104 i) ∧ sp_I mm_311 0 12 = sp_I mm_311 103 1 ∧ sp_I mm_311 0 13 = sp_I mm_311 103 11 ∧ sp_I mm_311 0 14 = sp_I mm_311 103 18 ∧ sp_I mm_311 0 15 = sp_I mm_311 103 50 ∧ sp_I mm_311 103 20 = 0 := by decide +kernel
theorem mm_i : ∀ k, k < 2 → sp_I mm_311 76 k = sp_I mm_311 107 k ∧ sp_I mm_311 76 k = 0 := by decide +kernel
theorem mm_n : sp_I mm_311 0 11 = 0 ∧ sp_I mm_311 103 54 = -1 ∧ sp_I mm_311 103 55 = -1 := by decide +kernel
theorem mm_77ne : sp_P mm_311 77 2 ≠ sp_P mm_311 77 3 := by decide +kernel
theorem mm_sn : sp_n mm_311 = 132 := by decide +kernel
theorem Inv_start : Inv 0 mm_311 := by
  obtain ⟨r0, r1, r2, r3, r4⟩ := mm_r0
  refine ⟨mm_ws, ⟨mm_row, ⟨⟨⟨0, by omega, r0⟩, ⟨0, by omega, r1⟩, ⟨0, by omega, r2⟩, ⟨0, by omega, r3, ?_⟩, fun k hk => ?_⟩, fun i h5 h79 => mm_bnd i h79 h5⟩, fun k hk => ?_⟩, i_U_0 (w := 0) (by omega) mm_u.1 mm_u.2.1 mm_u.2.2, i_T_0 mm_t.1 mm_t.2, mm_m, fun k hk => ⟨(mm_i k hk).1, Or.inl (mm_i k hk).2⟩, Or.inl mm_n, ⟨fun _ _ => rfl, fun _ _ => rfl, fun _ _ => rfl, fun _ _ => rfl, mm_77ne⟩, by rw [mm_sn]; omega⟩
  · show wi (sp_I mm_311 105 4) (-1) ((0 : Nat) - 1 : Int)
    rw [r4]
    unfold wi
    decide
  · exfalso
    have hk : (k : Int) < (sp_I mm_311 105 2).toInt := hk
    rw [r2, nI_toInt (by omega)] at hk
    omega
  · exfalso
    have hk : (k : Int) < (sp_I mm_311 105 3).toInt := hk
    rw [r3, nI_toInt (by omega)] at hk
    omega
theorem Inv_more {k : Nat} {M : sp_Mem} (h : Inv k M) : Inv (k + 1) M := Inv_lower h (by have := h.2.2.2.2.2.2.2.2; omega)
theorem law_n {F : Nat} {M : sp_Mem} {x : (Int32 × sp_Mem) × Nat × Nat} (h : fX10_law F M = some x) : sp_n x.1.2 = sp_n M + x.2.1 := by
  unfold fX10_law at h
  by_cases c : sp_I M 6 14 < 6
  · rw [if_pos c] at h
    obtain ⟨y, h1, h⟩ := Option.bind_eq_some_iff.mp h
    have f1 := (frX2_read h1).2.2.2.2.2
    simp only [sp_do] at h
    by_cases c2 : sp_I (sp_setI (sp_setI y.2 0 14 y.1) 94 1 0) 0 14 = -1
    · rw [if_pos c2] at h
      unfold fX10_lawOk at h
      by_cases c3 : sp_I (sp_setI (sp_setI y.2 0 14 y.1) 94 1 0) 97 2 * 5 < 0 ∨ 60 < (sp_I (sp_setI (sp_setI y.2 0 14 y.1) 94 1 0) 97 2 * 5).toNatClampNeg ∨ sp_I (sp_setI (sp_setI y.2 0 14 y.1) 94 1 0) 97 3 < 0 ∨ 400 < (sp_I (sp_setI (sp_setI y.2 0 14 y.1) 94 1 0) 97 3).toNatClampNeg ∨ 999990 < sp_n (sp_setI (sp_setI y.2 0 14 y.1) 94 1 0)
      · rw [if_pos c3] at h; cases h
      · rw [if_neg c3] at h
        obtain ⟨z, h2, h⟩ := Option.bind_eq_some_iff.mp h
        obtain ⟨v, h3, h⟩ := Option.bind_eq_some_iff.mp h
        have f2 := (frX5_addLaw h2).2.2.2.2.2
        have f3 := (frX10_grant h3).2.2.2.2.2
        cases h
        show sp_n v.2 = sp_n M + 3
        rw [f3, f2, tri_n]
        show sp_n y.2 + 3 = sp_n M + 3
        rw [f1]
    · rw [if_neg c2] at h
      obtain ⟨z, h2, h⟩ := Option.bind_eq_some_iff.mp h
      have f2 := (frX10_refuse h2).2.2.2.2.2
      cases h
      show sp_n z.2 = sp_n M + 0
      rw [f2]
      show sp_n y.2 = sp_n M
      rw [f1]
  · rw [if_neg c] at h
    simp only [sp_do] at h
    obtain ⟨z, h2, h⟩ := Option.bind_eq_some_iff.mp h
    have f2 := (frX10_refuse h2).2.2.2.2.2
    cases h
    show sp_n z.2 = sp_n M + 0
    rw [f2]
    rfl
theorem zz_pure : sp_Pure 100000 Inv := by
  refine ⟨Inv_start, fun k M h => Inv_more h, fun M x h => law_n h, fun k M hk hI => ?_⟩
  refine ⟨fun w1 w2 w3 => op_0 hI w1 w2 w3, fun w1 w2 => op_1 (by decide) hI w1 w2, fun w1 w2 => op_2 hI w1 w2, fun w1 w2 => op_3 hI w1 w2, fun w1 w2 => op_4 hI w1 w2, fun w1 w2 w3 => op_5 (by decide) hI w1 w2 w3, fun w1 => op_6 hI w1, fun w1 w2 => op_7 hI w1 w2, fun w1 w2 w3 w4 w5 => op_8 (by decide) hI w1 w2 w3 w4 w5, fun w1 => op_9 hI w1, op_10 (by decide) hI, op_11 hI, op_12 (by decide) hk hI, op_13 (by decide) hI, op_14 hI, op_15 hI, fun w1 => op_16 hI w1, fun w1 w2 => op_17 (by decide) hI w1 w2, fun w1 => op_18 (by decide) hI w1, fun w1 w2 => op_19 (by decide) hI w1 w2, op_20 (by decide) hI, op_21 (by decide) hI, fun w1 w2 => op_22 (by decide) hI w1 w2, fun w1 w2 => op_23 (by decide) hI w1 w2, fun w1 w2 => op_24 (by decide) hI w1 w2, fun w1 w2 => op_25 hI w1 w2, op_26 hI, op_27 (by decide) hI, fun w1 => op_28 (by decide) hI w1, fun w1 => op_29 (by decide) hI w1, fun w1 => op_30 (by decide) hI w1, fun w1 w2 => op_31 (by decide) hI w1 w2, fun w1 => op_32 (by decide) hI w1, fun w1 w2 w3 => op_33 (by decide) hI w1 w2 w3, fun w1 w2 => op_34 (by decide) hI w1 w2, fun w1 w2 => op_35 (by decide) hI w1 w2, fun w1 w2 => op_36 (by decide) hI w1 w2, fun w1 w2 => op_37 hI w1 w2, fun w1 => op_38 (by decide) hI w1, fun w1 => op_39 (by decide) hI w1, fun w1 => op_40 (by decide) hI w1, op_41 hI⟩
