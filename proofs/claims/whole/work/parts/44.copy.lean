/-! ===== copies of rooms ===== -/
section Copy
variable {F o0 o1 : Nat} {M : sp_Mem}
theorem cp_l172 {kx : sp_Mem → Option sp_Mem} (hne : o0 ≠ o1) : ∀ (m i k : Nat) (M : sp_Mem), i + m = 6 → m < k → ∃ M', fX5_copyFrom_l172 F o0 o1 kx k (nI i) M = kx M' ∧ (∀ a, sp_I M' a = sp_I M a) ∧ (∀ j, i ≤ j → j < 6 → sp_P M' (o0 + 11) j = sp_P M (o1 + 11) j) ∧ (∀ j, j < i → sp_P M' (o0 + 11) j = sp_P M (o0 + 11) j) ∧ (∀ j, 6 ≤ j → sp_P M' (o0 + 11) j = sp_P M (o0 + 11) j) := by
  intro m
  induction m with
  | zero =>
    intro i k M hi hk
    obtain ⟨k, rfl⟩ : ∃ m, k = m + 1 := ⟨k - 1, by omega⟩
    refine ⟨M, ?_, fun _ => rfl, fun j h1 h2 => by omega, fun _ _ => rfl, fun _ _ => rfl⟩
    unfold fX5_copyFrom_l172
    rw [if_pos (show (6 : Int32) ≤ nI i from nI_le (a := 6) (by omega) (by omega))]
  | succ m ih =>
    intro i k M hi hk
    obtain ⟨k, rfl⟩ : ∃ m, k = m + 1 := ⟨k - 1, by omega⟩
    obtain ⟨M', e1, e2, e3, e4, e5⟩ := ih (i + 1) k (sp_setP M (o0 + 11) i (sp_P M (o1 + 11) i)) (by omega) (by omega)
    refine ⟨M', ?_, fun a => (e2 a).trans rfl, fun j h1 h2 => ?_, fun j h1 => ?_, fun j h1 => ?_⟩
    · unfold fX5_copyFrom_l172
      simp only [sp_do]
      rw [if_neg (show ¬ (6 : Int32) ≤ nI i from nI_ge (b := 6) (by omega) (by omega)), sp_ix_nI (show i < 6 by omega) (by omega), Option.bind_some, Option.bind_some, nI_1]
      exact e1
    · by_cases hj : j = i
      · rw [hj, e4 i (by omega), sp_P_setP, if_pos ⟨rfl, rfl⟩]
      · rw [e3 j (by omega) h2, sp_P_setP, if_neg (by omega)]
    · rw [e4 j (by omega), sp_P_setP, if_neg (by omega)]
    · rw [e5 j h1, sp_P_setP, if_neg (by omega)]
theorem I_nf (M : sp_Mem) (o : Nat) {q j : Nat} (v : Int32) (h : j ≠ q) : sp_I (sp_setI M o q v) o j = sp_I M o j := by
  rw [sp_I_setI, if_neg (fun k => h k.2)]
theorem I_eq (M : sp_Mem) (o q : Nat) (v : Int32) : sp_I (sp_setI M o q v) o q = v := by
  rw [sp_I_setI, if_pos ⟨rfl, rfl⟩]
def cp13 (M : sp_Mem) (o0 o1 : Nat) : sp_Mem :=
  sp_do (sp_cpy M (o1 + 1) (o0 + 1) 0 0 25) fun M1 => sp_do (sp_cpy M1 (o1 + 2) (o0 + 2) 0 0 6) fun M2 => sp_do (sp_cpy M2 (o1 + 3) (o0 + 3) 0 0 6) fun M3 => sp_do (sp_cpy M3 (o1 + 4) (o0 + 4) 0 0 6) fun M4 => sp_do (sp_setI M4 o0 4 (sp_I M4 o1 4)) fun M5 => sp_do (sp_cpy M5 (o1 + 5) (o0 + 5) 0 0 5) fun M6 => sp_do (sp_cpy M6 (o1 + 6) (o0 + 6) 0 0 5) fun M7 => sp_do (sp_cpy M7 (o1 + 7) (o0 + 7) 0 0 5) fun M8 => sp_do (sp_setI M8 o0 8 (sp_I M8 o1 8)) fun M9 => sp_do (sp_cpy M9 (o1 + 8) (o0 + 8) 0 0 6) fun M10 => sp_do (sp_cpy M10 (o1 + 9) (o0 + 9) 0 0 6) fun M11 => sp_do (sp_setI M11 o0 11 (sp_I M11 o1 11)) fun M12 => sp_cpy M12 (o1 + 10) (o0 + 10) 0 0 4
theorem copy_e (hF : 1000 ≤ F) (ho : o1 + 12 ≤ o0 ∨ o0 + 12 ≤ o1) : ∃ M', fX5_copyFrom F M o0 o1 = some M' ∧ i_Room M' o0 (rowOf M o1) ∧ (∀ j, j < 6 → sp_P M' (o0 + 11) j = sp_P M (o1 + 11) j) ∧ (∀ j, 6 ≤ j → sp_P M' (o0 + 11) j = sp_P M (o0 + 11) j) ∧ sp_fr [(o0 + 1), (o0 + 2), (o0 + 3), (o0 + 4), (o0 + 5), (o0 + 6), (o0 + 7), (o0 + 8), (o0 + 9), (o0 + 10), (o0 + 11)] [(o0, 4), (o0, 8), (o0, 11), (o0, 14), (o0, 15)] M M' := by
  suffices hx : ∃ M', fX5_copyFrom F M o0 o1 = some M' ∧ i_Room M' o0 (rowOf M o1) ∧ (∀ j, j < 6 → sp_P M' (o0 + 11) j = sp_P M (o1 + 11) j) ∧ (∀ j, 6 ≤ j → sp_P M' (o0 + 11) j = sp_P M (o0 + 11) j) by
    obtain ⟨M', g1, g2, g3, g4⟩ := hx
    exact ⟨M', g1, g2, g3, g4, frX5_copyFrom g1⟩
  obtain ⟨M', e1, e2, e3, e4, e5⟩ := cp_l172 (F := F) (o0 := o0) (o1 := o1) (kx := fun M18 => sp_do (sp_setI M18 o0 14 (sp_I M18 o1 14)) fun M19 => sp_do (sp_setI M19 o0 15 (sp_I M19 o1 15)) fun M20 => some M20) (by omega) 6 0 F (cp13 M o0 o1) (by omega) (by omega)
  have e1' : fX5_copyFrom F M o0 o1 = some (sp_setI (sp_setI M' o0 14 (sp_I M' o1 14)) o0 15 (sp_I (sp_setI M' o0 14 (sp_I M' o1 14)) o1 15)) := e1
  refine ⟨_, e1', ?_, fun j hj => ?_, fun j hj => ?_⟩
  · refine rm_mk ?_ ?_ ?_ ?_ ?_ (fun k hk => ?_) (fun k hk => ?_) (fun k hk => ?_) (fun k hk => ?_) (fun k hk => ?_) (fun k hk => ?_) (fun k hk => ?_) (fun k hk => ?_) (fun k hk => ?_) (fun k hk => ?_)
    · rw [ro_0]; simp (disch := omega) only [I_ne, I_nf, I_eq, e2, cp13, sp_do, I_cpy_ne, I_cpy_at]
    · rw [ro_1]; simp (disch := omega) only [I_ne, I_nf, I_eq, e2, cp13, sp_do, I_cpy_ne, I_cpy_at]
    · rw [ro_2]; simp (disch := omega) only [I_ne, I_nf, I_eq, e2, cp13, sp_do, I_cpy_ne, I_cpy_at]
    · rw [ro_3]; simp (disch := omega) only [I_ne, I_nf, I_eq, e2, cp13, sp_do, I_cpy_ne, I_cpy_at]
    · rw [ro_4]; simp (disch := omega) only [I_ne, I_nf, I_eq, e2, cp13, sp_do, I_cpy_ne, I_cpy_at]
    · rw [ro_term M o1 hk]; simp (disch := omega) only [I_ne, I_nf, I_eq, e2, cp13, sp_do, I_cpy_ne, I_cpy_at]
    · rw [ro_cell M o1 hk]; simp (disch := omega) only [I_ne, I_nf, I_eq, e2, cp13, sp_do, I_cpy_ne, I_cpy_at]
    · rw [ro_heat M o1 hk]; simp (disch := omega) only [I_ne, I_nf, I_eq, e2, cp13, sp_do, I_cpy_ne, I_cpy_at]
    · rw [ro_stand M o1 hk]; simp (disch := omega) only [I_ne, I_nf, I_eq, e2, cp13, sp_do, I_cpy_ne, I_cpy_at]
    · rw [ro_kind M o1 hk]; simp (disch := omega) only [I_ne, I_nf, I_eq, e2, cp13, sp_do, I_cpy_ne, I_cpy_at]
    · rw [ro_name M o1 hk]; simp (disch := omega) only [I_ne, I_nf, I_eq, e2, cp13, sp_do, I_cpy_ne, I_cpy_at]
    · rw [ro_reach M o1 hk]; simp (disch := omega) only [I_ne, I_nf, I_eq, e2, cp13, sp_do, I_cpy_ne, I_cpy_at]
    · rw [ro_know M o1 hk]; simp (disch := omega) only [I_ne, I_nf, I_eq, e2, cp13, sp_do, I_cpy_ne, I_cpy_at]
    · rw [ro_ask M o1]; simp (disch := omega) only [I_ne, I_nf, I_eq, e2, cp13, sp_do, I_cpy_ne, I_cpy_at]
    · rw [ro_rep M o1]; simp (disch := omega) only [I_ne, I_nf, I_eq, e2, cp13, sp_do, I_cpy_ne, I_cpy_at]
  · exact e3 j (by omega) hj
  · exact e5 j hj
theorem copy_WS {M' : sp_Mem} (ho0 : sp_room o0) (ho1 : sp_room o1) (hfr : sp_fr [(o0 + 1), (o0 + 2), (o0 + 3), (o0 + 4), (o0 + 5), (o0 + 6), (o0 + 7), (o0 + 8), (o0 + 9), (o0 + 10), (o0 + 11)] [(o0, 4), (o0, 8), (o0, 11), (o0, 14), (o0, 15)] M M') (hP : ∀ j, j < 6 → sp_P M' (o0 + 11) j = sp_P M (o1 + 11) j) (hQ : ∀ j, 6 ≤ j → sp_P M' (o0 + 11) j = sp_P M (o0 + 11) j) (hw : sp_WS M) : sp_WS M' := by
  have hk : okA [(o0 + 1), (o0 + 2), (o0 + 3), (o0 + 4), (o0 + 5), (o0 + 6), (o0 + 7), (o0 + 8), (o0 + 9), (o0 + 10), (o0 + 11)] [(o0, 4), (o0, 8), (o0, 11), (o0, 14), (o0, 15)] = true := by
    rcases ho0 with rfl | rfl | rfl | rfl | rfl | rfl <;> decide +kernel
  have hd : dj [] (wsB ++ [(77, 2), (77, 3)]) [(o0 + 1), (o0 + 2), (o0 + 3), (o0 + 4), (o0 + 5), (o0 + 6), (o0 + 7), (o0 + 8), (o0 + 9), (o0 + 10), (o0 + 11)] [(o0, 4), (o0, 8), (o0, 11), (o0, 14), (o0, 15)] = true := by
    rcases ho0 with rfl | rfl | rfl | rfl | rfl | rfl <;> decide +kernel
  refine WS_fr hfr hk (dj_sub (fun i hi => by cases hi) (fun i hi => List.mem_append_left _ hi) hd) ?_ ?_ ?_ hw
  · rw [fr_PB hfr hd 77 2 (List.mem_append_right _ (by decide))]; exact hw.2.2.2.2.1
  · rw [fr_PB hfr hd 77 3 (List.mem_append_right _ (by decide))]; exact hw.2.2.2.2.2.1
  · intro o ho k t hkt
    by_cases hoo : o = o0
    · subst hoo
      by_cases h6 : k < 6
      · rw [hP k h6] at hkt; exact hw.2.2.2.2.2.2 o1 ho1 k t hkt
      · rw [hQ k (by omega)] at hkt; exact hw.2.2.2.2.2.2 o ho k t hkt
    · have : sp_P M' (o + 11) k = sp_P M (o + 11) k := by
        refine hfr.2.2.1 _ _ ?_ ?_
        · rcases ho with rfl | rfl | rfl | rfl | rfl | rfl <;> rcases ho0 with rfl | rfl | rfl | rfl | rfl | rfl <;> first | (exact absurd rfl hoo) | decide
        · rcases ho with rfl | rfl | rfl | rfl | rfl | rfl <;> rcases ho0 with rfl | rfl | rfl | rfl | rfl | rfl <;> simp
      rw [this] at hkt
      exact hw.2.2.2.2.2.2 o ho k t hkt
end Copy
