def sh_T : List Nat := [14, 10, 5, 0, 0, 11, 9, 0, 0, 0, 0, 0, 0, 0, 0, 0, 0, 4, 8, 0, 0, 0, 11, 9, 0, 0, 0, 0, 0, 0, 0, 0, 0, 0, 4, 8, 0, 0, 0, 9, 0, 0, 0, 0, 0, 0, 0, 0, 0, 0, 4, 3, 9, 0, 0, 0, 0, 0, 0, 0, 0, 0, 0, 4, 9, 0, 0, 0, 0, 0, 0, 0, 0, 0, 0, 4, 2, 6, 9, 0, 0, 0, 0, 0, 0, 0, 0, 0, 0, 4, 1, 1, 2, 0, 12, 0, 7, 13, 0, 0, 0, 0, 0, 15, 0, 0, 0, 2, 0, 0, 0, 0, 0, 0, 0, 0, 0, 0, 1, 1, 1, 1, 1, 1, 0, 0, 0, 1, 1, 1, 0, 0]
def sh_N : List Nat := [0, 0, 0, 52, 10, 0, 0, 25, 6, 6, 6, 5, 5, 5, 6, 6, 4, 6, 0, 731, 17, 16, 0, 0, 25, 6, 6, 6, 5, 5, 5, 6, 6, 4, 6, 0, 731, 17, 16, 0, 25, 6, 6, 6, 5, 5, 5, 6, 6, 4, 6, 2, 0, 25, 6, 6, 6, 5, 5, 5, 6, 6, 4, 6, 0, 25, 6, 6, 6, 5, 5, 5, 6, 6, 4, 6, 2, 0, 0, 25, 6, 6, 6, 5, 5, 5, 6, 6, 4, 6, 25, 25, 30, 6, 0, 400, 0, 0, 60, 400, 160, 160, 7, 0, 7, 5480, 10960, 2, 828, 16, 736, 16, 400, 96, 400, 400, 400, 400, 10, 6, 4, 13, 13, 400, 6, 6, 6, 25, 25, 4, 96, 46]
def sh_P : List (Nat × Nat × Nat) := [(0, 0, 1), (0, 1, 5), (0, 2, 22), (0, 3, 6), (0, 4, 39), (0, 5, 51), (0, 6, 76), (0, 7, 77), (0, 8, 94), (0, 9, 96), (0, 10, 102), (1, 0, 2), (1, 1, 4), (2, 0, 3), (5, 0, 6), (5, 1, 18), (5, 2, 1), (5, 3, 21), (6, 0, 7), (6, 1, 8), (6, 2, 9), (6, 3, 10), (6, 5, 11), (6, 6, 12), (6, 7, 13), (6, 9, 14), (6, 10, 15), (6, 12, 16), (6, 13, 17), (18, 0, 19), (18, 1, 20), (22, 0, 23), (22, 1, 35), (22, 2, 1), (22, 3, 38), (23, 0, 24), (23, 1, 25), (23, 2, 26), (23, 3, 27), (23, 5, 28), (23, 6, 29), (23, 7, 30), (23, 9, 31), (23, 10, 32), (23, 12, 33), (23, 13, 34), (35, 0, 36), (35, 1, 37), (39, 0, 40), (39, 1, 41), (39, 2, 42), (39, 3, 43), (39, 5, 44), (39, 6, 45), (39, 7, 46), (39, 9, 47), (39, 10, 48), (39, 12, 49), (39, 13, 50), (51, 0, 52), (51, 1, 64), (52, 0, 53), (52, 1, 54), (52, 2, 55), (52, 3, 56), (52, 5, 57), (52, 6, 58), (52, 7, 59), (52, 9, 60), (52, 10, 61), (52, 12, 62), (52, 13, 63), (64, 0, 65), (64, 1, 66), (64, 2, 67), (64, 3, 68), (64, 5, 69), (64, 6, 70), (64, 7, 71), (64, 9, 72), (64, 10, 73), (64, 12, 74), (64, 13, 75), (77, 0, 1), (77, 1, 78), (77, 4, 92), (77, 5, 93), (78, 0, 79), (78, 1, 80), (78, 2, 81), (78, 3, 82), (78, 5, 83), (78, 6, 84), (78, 7, 85), (78, 9, 86), (78, 10, 87), (78, 12, 88), (78, 13, 89), (94, 0, 95), (96, 0, 94), (96, 1, 97), (96, 2, 100), (96, 3, 101), (97, 0, 98), (97, 1, 99), (103, 2, 104), (103, 3, 105), (103, 4, 106), (103, 5, 107), (103, 6, 108), (103, 7, 109), (103, 9, 110), (103, 10, 111), (103, 12, 112), (103, 22, 113), (103, 24, 114), (103, 25, 115), (103, 27, 116), (103, 28, 117), (103, 31, 118), (103, 32, 119), (103, 33, 120), (103, 35, 121), (103, 36, 122), (103, 37, 123), (103, 41, 124), (103, 42, 125), (103, 43, 126), (103, 44, 127), (103, 45, 128), (103, 46, 129), (103, 47, 130), (103, 53, 131)]
def sp_room (o : Nat) : Prop := o = 6 ∨ o = 23 ∨ o = 39 ∨ o = 52 ∨ o = 64 ∨ o = 78
def sp_stage (o : Nat) : Prop := o = 5 ∨ o = 22
def sp_past (o : Nat) : Prop := o = 18 ∨ o = 35
def sp_words (o : Nat) : Prop := o = 4 ∨ o = 21 ∨ o = 38
def sp_rows (o : Nat) : Prop := o = 19 ∨ o = 36
def sp_half (o : Nat) : Prop := o = 90 ∨ o = 91
/-- a text: its two rows stand behind it -/
def sp_text (M : sp_Mem) (t : Nat) : Prop := sp_is M t 8 ∧ sp_P M t 0 = some (t + 1) ∧ sp_P M t 1 = some (t + 2) ∧ sp_ar M (t + 1) 0 ∧ sp_ar M (t + 2) 0
/-- the memory is laid out as the two constructors leave it -/
def sp_WS (M : sp_Mem) : Prop := 132 ≤ sp_n M ∧ (∀ i, i < 132 → sp_T M i = sh_T.getD i 0) ∧ (∀ i, i < 132 → sp_N M i = sh_N.getD i 0) ∧ (∀ q ∈ sh_P, sp_P M q.1 q.2.1 = some q.2.2) ∧ (∃ a, sp_half a ∧ sp_P M 77 2 = some a) ∧ (∃ a, sp_half a ∧ sp_P M 77 3 = some a) ∧ ∀ o, sp_room o → ∀ k t, sp_P M (o + 11) k = some t → sp_text M t
/-- what may be held over a run: the layout, and what only layout decides -/
def sp_Ok (Ω : sp_Mem → Prop) : Prop := (∀ M, Ω M → sp_WS M) ∧ (∀ (M : sp_Mem) f, Ω M → Ω (f, M.2)) ∧ (∀ (M : sp_Mem) f, Ω M → Ω (M.1, f, M.2.2)) ∧ (∀ M o k x, sp_room o → (∀ t, x = some t → sp_text M t) → Ω M → Ω (sp_setP M (o + 11) k x)) ∧ (∀ M j a, (j = 2 ∨ j = 3) → sp_half a → Ω M → Ω (sp_setP M 77 j (some a))) ∧ (∀ M t j x, 132 ≤ t → ¬ sp_text M t → Ω M → Ω (sp_setP M t j x)) ∧ (∀ M t len, Ω M → Ω (sp_new M t len))
theorem sp_Ok.I {Ω : sp_Mem → Prop} (h : sp_Ok Ω) {M : sp_Mem} {o j : Nat} {v : Int32} (ho : Ω M) : Ω (sp_setI M o j v) := h.2.1 M _ ho
theorem sp_Ok.L {Ω : sp_Mem → Prop} (h : sp_Ok Ω) {M : sp_Mem} {o j : Nat} {v : Int64} (ho : Ω M) : Ω (sp_setL M o j v) := h.2.2.1 M _ ho
theorem sp_Ok.R {Ω : sp_Mem → Prop} (h : sp_Ok Ω) {M : sp_Mem} {o : Nat} {f : Nat → Int32} (ho : Ω M) : Ω (sp_rowI M o f) := h.2.1 M _ ho
theorem ws_T {M : sp_Mem} (hs : sp_WS M) (i t : Nat) (hi : i < 132) (ht : sh_T.getD i 0 = t) : sp_ar M i t := ⟨Nat.lt_of_lt_of_le hi hs.1, (hs.2.1 i hi).trans ht⟩
theorem ws_N {M : sp_Mem} (hs : sp_WS M) (i t : Nat) (hi : i < 132) (ht : sh_N.getD i 0 = t) : sp_N M i = t := (hs.2.2.1 i hi).trans ht
theorem ws_P {M : sp_Mem} (hs : sp_WS M) (i j a : Nat) (hm : (i, j, a) ∈ sh_P) : sp_P M i j = some a := hs.2.2.2.1 _ hm
theorem wsI_0 {M : sp_Mem} (hs : sp_WS M) : sp_is M 0 9 := ws_T hs 0 14 (by decide) rfl
theorem wsI_1 {M : sp_Mem} (hs : sp_WS M) : sp_is M 1 5 := ws_T hs 1 10 (by decide) rfl
theorem wsI_2 {M : sp_Mem} (hs : sp_WS M) : sp_is M 2 0 := ws_T hs 2 5 (by decide) rfl
theorem wsA_3 {M : sp_Mem} (hs : sp_WS M) : sp_ar M 3 0 := ws_T hs 3 0 (by decide) rfl
theorem wsN_3 {M : sp_Mem} (hs : sp_WS M) : sp_N M 3 = 52 := ws_N hs 3 52 (by decide) rfl
theorem wsA_4 {M : sp_Mem} (hs : sp_WS M) : sp_ar M 4 0 := ws_T hs 4 0 (by decide) rfl
theorem wsN_4 {M : sp_Mem} (hs : sp_WS M) : sp_N M 4 = 10 := ws_N hs 4 10 (by decide) rfl
theorem wsI_5 {M : sp_Mem} (hs : sp_WS M) : sp_is M 5 6 := ws_T hs 5 11 (by decide) rfl
theorem wsI_6 {M : sp_Mem} (hs : sp_WS M) : sp_is M 6 4 := ws_T hs 6 9 (by decide) rfl
theorem wsA_7 {M : sp_Mem} (hs : sp_WS M) : sp_ar M 7 0 := ws_T hs 7 0 (by decide) rfl
theorem wsN_7 {M : sp_Mem} (hs : sp_WS M) : sp_N M 7 = 25 := ws_N hs 7 25 (by decide) rfl
theorem wsA_8 {M : sp_Mem} (hs : sp_WS M) : sp_ar M 8 0 := ws_T hs 8 0 (by decide) rfl
theorem wsN_8 {M : sp_Mem} (hs : sp_WS M) : sp_N M 8 = 6 := ws_N hs 8 6 (by decide) rfl
theorem wsA_9 {M : sp_Mem} (hs : sp_WS M) : sp_ar M 9 0 := ws_T hs 9 0 (by decide) rfl
theorem wsN_9 {M : sp_Mem} (hs : sp_WS M) : sp_N M 9 = 6 := ws_N hs 9 6 (by decide) rfl
theorem wsA_10 {M : sp_Mem} (hs : sp_WS M) : sp_ar M 10 0 := ws_T hs 10 0 (by decide) rfl
theorem wsN_10 {M : sp_Mem} (hs : sp_WS M) : sp_N M 10 = 6 := ws_N hs 10 6 (by decide) rfl
theorem wsA_11 {M : sp_Mem} (hs : sp_WS M) : sp_ar M 11 0 := ws_T hs 11 0 (by decide) rfl
theorem wsN_11 {M : sp_Mem} (hs : sp_WS M) : sp_N M 11 = 5 := ws_N hs 11 5 (by decide) rfl
theorem wsA_12 {M : sp_Mem} (hs : sp_WS M) : sp_ar M 12 0 := ws_T hs 12 0 (by decide) rfl
theorem wsN_12 {M : sp_Mem} (hs : sp_WS M) : sp_N M 12 = 5 := ws_N hs 12 5 (by decide) rfl
theorem wsA_13 {M : sp_Mem} (hs : sp_WS M) : sp_ar M 13 0 := ws_T hs 13 0 (by decide) rfl
theorem wsN_13 {M : sp_Mem} (hs : sp_WS M) : sp_N M 13 = 5 := ws_N hs 13 5 (by decide) rfl
theorem wsA_14 {M : sp_Mem} (hs : sp_WS M) : sp_ar M 14 0 := ws_T hs 14 0 (by decide) rfl
theorem wsN_14 {M : sp_Mem} (hs : sp_WS M) : sp_N M 14 = 6 := ws_N hs 14 6 (by decide) rfl
theorem wsA_15 {M : sp_Mem} (hs : sp_WS M) : sp_ar M 15 0 := ws_T hs 15 0 (by decide) rfl
theorem wsN_15 {M : sp_Mem} (hs : sp_WS M) : sp_N M 15 = 6 := ws_N hs 15 6 (by decide) rfl
theorem wsA_16 {M : sp_Mem} (hs : sp_WS M) : sp_ar M 16 0 := ws_T hs 16 0 (by decide) rfl
theorem wsN_16 {M : sp_Mem} (hs : sp_WS M) : sp_N M 16 = 4 := ws_N hs 16 4 (by decide) rfl
theorem wsA_17 {M : sp_Mem} (hs : sp_WS M) : sp_ar M 17 4 := ws_T hs 17 4 (by decide) rfl
theorem wsN_17 {M : sp_Mem} (hs : sp_WS M) : sp_N M 17 = 6 := ws_N hs 17 6 (by decide) rfl
theorem wsI_18 {M : sp_Mem} (hs : sp_WS M) : sp_is M 18 3 := ws_T hs 18 8 (by decide) rfl
theorem wsA_19 {M : sp_Mem} (hs : sp_WS M) : sp_ar M 19 0 := ws_T hs 19 0 (by decide) rfl
theorem wsN_19 {M : sp_Mem} (hs : sp_WS M) : sp_N M 19 = 731 := ws_N hs 19 731 (by decide) rfl
theorem wsA_20 {M : sp_Mem} (hs : sp_WS M) : sp_ar M 20 0 := ws_T hs 20 0 (by decide) rfl
theorem wsN_20 {M : sp_Mem} (hs : sp_WS M) : sp_N M 20 = 17 := ws_N hs 20 17 (by decide) rfl
theorem wsA_21 {M : sp_Mem} (hs : sp_WS M) : sp_ar M 21 0 := ws_T hs 21 0 (by decide) rfl
theorem wsN_21 {M : sp_Mem} (hs : sp_WS M) : sp_N M 21 = 16 := ws_N hs 21 16 (by decide) rfl
theorem wsI_22 {M : sp_Mem} (hs : sp_WS M) : sp_is M 22 6 := ws_T hs 22 11 (by decide) rfl
theorem wsI_23 {M : sp_Mem} (hs : sp_WS M) : sp_is M 23 4 := ws_T hs 23 9 (by decide) rfl
theorem wsA_24 {M : sp_Mem} (hs : sp_WS M) : sp_ar M 24 0 := ws_T hs 24 0 (by decide) rfl
theorem wsN_24 {M : sp_Mem} (hs : sp_WS M) : sp_N M 24 = 25 := ws_N hs 24 25 (by decide) rfl
theorem wsA_25 {M : sp_Mem} (hs : sp_WS M) : sp_ar M 25 0 := ws_T hs 25 0 (by decide) rfl
theorem wsN_25 {M : sp_Mem} (hs : sp_WS M) : sp_N M 25 = 6 := ws_N hs 25 6 (by decide) rfl
theorem wsA_26 {M : sp_Mem} (hs : sp_WS M) : sp_ar M 26 0 := ws_T hs 26 0 (by decide) rfl
theorem wsN_26 {M : sp_Mem} (hs : sp_WS M) : sp_N M 26 = 6 := ws_N hs 26 6 (by decide) rfl
theorem wsA_27 {M : sp_Mem} (hs : sp_WS M) : sp_ar M 27 0 := ws_T hs 27 0 (by decide) rfl
theorem wsN_27 {M : sp_Mem} (hs : sp_WS M) : sp_N M 27 = 6 := ws_N hs 27 6 (by decide) rfl
theorem wsA_28 {M : sp_Mem} (hs : sp_WS M) : sp_ar M 28 0 := ws_T hs 28 0 (by decide) rfl
theorem wsN_28 {M : sp_Mem} (hs : sp_WS M) : sp_N M 28 = 5 := ws_N hs 28 5 (by decide) rfl
theorem wsA_29 {M : sp_Mem} (hs : sp_WS M) : sp_ar M 29 0 := ws_T hs 29 0 (by decide) rfl
theorem wsN_29 {M : sp_Mem} (hs : sp_WS M) : sp_N M 29 = 5 := ws_N hs 29 5 (by decide) rfl
theorem wsA_30 {M : sp_Mem} (hs : sp_WS M) : sp_ar M 30 0 := ws_T hs 30 0 (by decide) rfl
theorem wsN_30 {M : sp_Mem} (hs : sp_WS M) : sp_N M 30 = 5 := ws_N hs 30 5 (by decide) rfl
theorem wsA_31 {M : sp_Mem} (hs : sp_WS M) : sp_ar M 31 0 := ws_T hs 31 0 (by decide) rfl
theorem wsN_31 {M : sp_Mem} (hs : sp_WS M) : sp_N M 31 = 6 := ws_N hs 31 6 (by decide) rfl
theorem wsA_32 {M : sp_Mem} (hs : sp_WS M) : sp_ar M 32 0 := ws_T hs 32 0 (by decide) rfl
theorem wsN_32 {M : sp_Mem} (hs : sp_WS M) : sp_N M 32 = 6 := ws_N hs 32 6 (by decide) rfl
theorem wsA_33 {M : sp_Mem} (hs : sp_WS M) : sp_ar M 33 0 := ws_T hs 33 0 (by decide) rfl
theorem wsN_33 {M : sp_Mem} (hs : sp_WS M) : sp_N M 33 = 4 := ws_N hs 33 4 (by decide) rfl
theorem wsA_34 {M : sp_Mem} (hs : sp_WS M) : sp_ar M 34 4 := ws_T hs 34 4 (by decide) rfl
theorem wsN_34 {M : sp_Mem} (hs : sp_WS M) : sp_N M 34 = 6 := ws_N hs 34 6 (by decide) rfl
theorem wsI_35 {M : sp_Mem} (hs : sp_WS M) : sp_is M 35 3 := ws_T hs 35 8 (by decide) rfl
theorem wsA_36 {M : sp_Mem} (hs : sp_WS M) : sp_ar M 36 0 := ws_T hs 36 0 (by decide) rfl
theorem wsN_36 {M : sp_Mem} (hs : sp_WS M) : sp_N M 36 = 731 := ws_N hs 36 731 (by decide) rfl
theorem wsA_37 {M : sp_Mem} (hs : sp_WS M) : sp_ar M 37 0 := ws_T hs 37 0 (by decide) rfl
theorem wsN_37 {M : sp_Mem} (hs : sp_WS M) : sp_N M 37 = 17 := ws_N hs 37 17 (by decide) rfl
theorem wsA_38 {M : sp_Mem} (hs : sp_WS M) : sp_ar M 38 0 := ws_T hs 38 0 (by decide) rfl
theorem wsN_38 {M : sp_Mem} (hs : sp_WS M) : sp_N M 38 = 16 := ws_N hs 38 16 (by decide) rfl
theorem wsI_39 {M : sp_Mem} (hs : sp_WS M) : sp_is M 39 4 := ws_T hs 39 9 (by decide) rfl
theorem wsA_40 {M : sp_Mem} (hs : sp_WS M) : sp_ar M 40 0 := ws_T hs 40 0 (by decide) rfl
theorem wsN_40 {M : sp_Mem} (hs : sp_WS M) : sp_N M 40 = 25 := ws_N hs 40 25 (by decide) rfl
theorem wsA_41 {M : sp_Mem} (hs : sp_WS M) : sp_ar M 41 0 := ws_T hs 41 0 (by decide) rfl
theorem wsN_41 {M : sp_Mem} (hs : sp_WS M) : sp_N M 41 = 6 := ws_N hs 41 6 (by decide) rfl
theorem wsA_42 {M : sp_Mem} (hs : sp_WS M) : sp_ar M 42 0 := ws_T hs 42 0 (by decide) rfl
theorem wsN_42 {M : sp_Mem} (hs : sp_WS M) : sp_N M 42 = 6 := ws_N hs 42 6 (by decide) rfl
theorem wsA_43 {M : sp_Mem} (hs : sp_WS M) : sp_ar M 43 0 := ws_T hs 43 0 (by decide) rfl
theorem wsN_43 {M : sp_Mem} (hs : sp_WS M) : sp_N M 43 = 6 := ws_N hs 43 6 (by decide) rfl
theorem wsA_44 {M : sp_Mem} (hs : sp_WS M) : sp_ar M 44 0 := ws_T hs 44 0 (by decide) rfl
theorem wsN_44 {M : sp_Mem} (hs : sp_WS M) : sp_N M 44 = 5 := ws_N hs 44 5 (by decide) rfl
theorem wsA_45 {M : sp_Mem} (hs : sp_WS M) : sp_ar M 45 0 := ws_T hs 45 0 (by decide) rfl
theorem wsN_45 {M : sp_Mem} (hs : sp_WS M) : sp_N M 45 = 5 := ws_N hs 45 5 (by decide) rfl
theorem wsA_46 {M : sp_Mem} (hs : sp_WS M) : sp_ar M 46 0 := ws_T hs 46 0 (by decide) rfl
theorem wsN_46 {M : sp_Mem} (hs : sp_WS M) : sp_N M 46 = 5 := ws_N hs 46 5 (by decide) rfl
theorem wsA_47 {M : sp_Mem} (hs : sp_WS M) : sp_ar M 47 0 := ws_T hs 47 0 (by decide) rfl
theorem wsN_47 {M : sp_Mem} (hs : sp_WS M) : sp_N M 47 = 6 := ws_N hs 47 6 (by decide) rfl
theorem wsA_48 {M : sp_Mem} (hs : sp_WS M) : sp_ar M 48 0 := ws_T hs 48 0 (by decide) rfl
theorem wsN_48 {M : sp_Mem} (hs : sp_WS M) : sp_N M 48 = 6 := ws_N hs 48 6 (by decide) rfl
theorem wsA_49 {M : sp_Mem} (hs : sp_WS M) : sp_ar M 49 0 := ws_T hs 49 0 (by decide) rfl
theorem wsN_49 {M : sp_Mem} (hs : sp_WS M) : sp_N M 49 = 4 := ws_N hs 49 4 (by decide) rfl
theorem wsA_50 {M : sp_Mem} (hs : sp_WS M) : sp_ar M 50 4 := ws_T hs 50 4 (by decide) rfl
theorem wsN_50 {M : sp_Mem} (hs : sp_WS M) : sp_N M 50 = 6 := ws_N hs 50 6 (by decide) rfl
theorem wsA_51 {M : sp_Mem} (hs : sp_WS M) : sp_ar M 51 3 := ws_T hs 51 3 (by decide) rfl
theorem wsN_51 {M : sp_Mem} (hs : sp_WS M) : sp_N M 51 = 2 := ws_N hs 51 2 (by decide) rfl
theorem wsI_52 {M : sp_Mem} (hs : sp_WS M) : sp_is M 52 4 := ws_T hs 52 9 (by decide) rfl
theorem wsA_53 {M : sp_Mem} (hs : sp_WS M) : sp_ar M 53 0 := ws_T hs 53 0 (by decide) rfl
theorem wsN_53 {M : sp_Mem} (hs : sp_WS M) : sp_N M 53 = 25 := ws_N hs 53 25 (by decide) rfl
theorem wsA_54 {M : sp_Mem} (hs : sp_WS M) : sp_ar M 54 0 := ws_T hs 54 0 (by decide) rfl
theorem wsN_54 {M : sp_Mem} (hs : sp_WS M) : sp_N M 54 = 6 := ws_N hs 54 6 (by decide) rfl
theorem wsA_55 {M : sp_Mem} (hs : sp_WS M) : sp_ar M 55 0 := ws_T hs 55 0 (by decide) rfl
theorem wsN_55 {M : sp_Mem} (hs : sp_WS M) : sp_N M 55 = 6 := ws_N hs 55 6 (by decide) rfl
theorem wsA_56 {M : sp_Mem} (hs : sp_WS M) : sp_ar M 56 0 := ws_T hs 56 0 (by decide) rfl
theorem wsN_56 {M : sp_Mem} (hs : sp_WS M) : sp_N M 56 = 6 := ws_N hs 56 6 (by decide) rfl
theorem wsA_57 {M : sp_Mem} (hs : sp_WS M) : sp_ar M 57 0 := ws_T hs 57 0 (by decide) rfl
theorem wsN_57 {M : sp_Mem} (hs : sp_WS M) : sp_N M 57 = 5 := ws_N hs 57 5 (by decide) rfl
theorem wsA_58 {M : sp_Mem} (hs : sp_WS M) : sp_ar M 58 0 := ws_T hs 58 0 (by decide) rfl
theorem wsN_58 {M : sp_Mem} (hs : sp_WS M) : sp_N M 58 = 5 := ws_N hs 58 5 (by decide) rfl
theorem wsA_59 {M : sp_Mem} (hs : sp_WS M) : sp_ar M 59 0 := ws_T hs 59 0 (by decide) rfl
theorem wsN_59 {M : sp_Mem} (hs : sp_WS M) : sp_N M 59 = 5 := ws_N hs 59 5 (by decide) rfl
theorem wsA_60 {M : sp_Mem} (hs : sp_WS M) : sp_ar M 60 0 := ws_T hs 60 0 (by decide) rfl
theorem wsN_60 {M : sp_Mem} (hs : sp_WS M) : sp_N M 60 = 6 := ws_N hs 60 6 (by decide) rfl
theorem wsA_61 {M : sp_Mem} (hs : sp_WS M) : sp_ar M 61 0 := ws_T hs 61 0 (by decide) rfl
theorem wsN_61 {M : sp_Mem} (hs : sp_WS M) : sp_N M 61 = 6 := ws_N hs 61 6 (by decide) rfl
theorem wsA_62 {M : sp_Mem} (hs : sp_WS M) : sp_ar M 62 0 := ws_T hs 62 0 (by decide) rfl
theorem wsN_62 {M : sp_Mem} (hs : sp_WS M) : sp_N M 62 = 4 := ws_N hs 62 4 (by decide) rfl
theorem wsA_63 {M : sp_Mem} (hs : sp_WS M) : sp_ar M 63 4 := ws_T hs 63 4 (by decide) rfl
theorem wsN_63 {M : sp_Mem} (hs : sp_WS M) : sp_N M 63 = 6 := ws_N hs 63 6 (by decide) rfl
theorem wsI_64 {M : sp_Mem} (hs : sp_WS M) : sp_is M 64 4 := ws_T hs 64 9 (by decide) rfl
theorem wsA_65 {M : sp_Mem} (hs : sp_WS M) : sp_ar M 65 0 := ws_T hs 65 0 (by decide) rfl
theorem wsN_65 {M : sp_Mem} (hs : sp_WS M) : sp_N M 65 = 25 := ws_N hs 65 25 (by decide) rfl
theorem wsA_66 {M : sp_Mem} (hs : sp_WS M) : sp_ar M 66 0 := ws_T hs 66 0 (by decide) rfl
theorem wsN_66 {M : sp_Mem} (hs : sp_WS M) : sp_N M 66 = 6 := ws_N hs 66 6 (by decide) rfl
theorem wsA_67 {M : sp_Mem} (hs : sp_WS M) : sp_ar M 67 0 := ws_T hs 67 0 (by decide) rfl
theorem wsN_67 {M : sp_Mem} (hs : sp_WS M) : sp_N M 67 = 6 := ws_N hs 67 6 (by decide) rfl
theorem wsA_68 {M : sp_Mem} (hs : sp_WS M) : sp_ar M 68 0 := ws_T hs 68 0 (by decide) rfl
theorem wsN_68 {M : sp_Mem} (hs : sp_WS M) : sp_N M 68 = 6 := ws_N hs 68 6 (by decide) rfl
theorem wsA_69 {M : sp_Mem} (hs : sp_WS M) : sp_ar M 69 0 := ws_T hs 69 0 (by decide) rfl
theorem wsN_69 {M : sp_Mem} (hs : sp_WS M) : sp_N M 69 = 5 := ws_N hs 69 5 (by decide) rfl
theorem wsA_70 {M : sp_Mem} (hs : sp_WS M) : sp_ar M 70 0 := ws_T hs 70 0 (by decide) rfl
theorem wsN_70 {M : sp_Mem} (hs : sp_WS M) : sp_N M 70 = 5 := ws_N hs 70 5 (by decide) rfl
theorem wsA_71 {M : sp_Mem} (hs : sp_WS M) : sp_ar M 71 0 := ws_T hs 71 0 (by decide) rfl
theorem wsN_71 {M : sp_Mem} (hs : sp_WS M) : sp_N M 71 = 5 := ws_N hs 71 5 (by decide) rfl
theorem wsA_72 {M : sp_Mem} (hs : sp_WS M) : sp_ar M 72 0 := ws_T hs 72 0 (by decide) rfl
theorem wsN_72 {M : sp_Mem} (hs : sp_WS M) : sp_N M 72 = 6 := ws_N hs 72 6 (by decide) rfl
theorem wsA_73 {M : sp_Mem} (hs : sp_WS M) : sp_ar M 73 0 := ws_T hs 73 0 (by decide) rfl
theorem wsN_73 {M : sp_Mem} (hs : sp_WS M) : sp_N M 73 = 6 := ws_N hs 73 6 (by decide) rfl
theorem wsA_74 {M : sp_Mem} (hs : sp_WS M) : sp_ar M 74 0 := ws_T hs 74 0 (by decide) rfl
theorem wsN_74 {M : sp_Mem} (hs : sp_WS M) : sp_N M 74 = 4 := ws_N hs 74 4 (by decide) rfl
theorem wsA_75 {M : sp_Mem} (hs : sp_WS M) : sp_ar M 75 4 := ws_T hs 75 4 (by decide) rfl
theorem wsN_75 {M : sp_Mem} (hs : sp_WS M) : sp_N M 75 = 6 := ws_N hs 75 6 (by decide) rfl
theorem wsA_76 {M : sp_Mem} (hs : sp_WS M) : sp_ar M 76 2 := ws_T hs 76 2 (by decide) rfl
theorem wsN_76 {M : sp_Mem} (hs : sp_WS M) : sp_N M 76 = 2 := ws_N hs 76 2 (by decide) rfl
theorem wsI_77 {M : sp_Mem} (hs : sp_WS M) : sp_is M 77 1 := ws_T hs 77 6 (by decide) rfl
theorem wsI_78 {M : sp_Mem} (hs : sp_WS M) : sp_is M 78 4 := ws_T hs 78 9 (by decide) rfl
theorem wsA_79 {M : sp_Mem} (hs : sp_WS M) : sp_ar M 79 0 := ws_T hs 79 0 (by decide) rfl
theorem wsN_79 {M : sp_Mem} (hs : sp_WS M) : sp_N M 79 = 25 := ws_N hs 79 25 (by decide) rfl
theorem wsA_80 {M : sp_Mem} (hs : sp_WS M) : sp_ar M 80 0 := ws_T hs 80 0 (by decide) rfl
theorem wsN_80 {M : sp_Mem} (hs : sp_WS M) : sp_N M 80 = 6 := ws_N hs 80 6 (by decide) rfl
theorem wsA_81 {M : sp_Mem} (hs : sp_WS M) : sp_ar M 81 0 := ws_T hs 81 0 (by decide) rfl
theorem wsN_81 {M : sp_Mem} (hs : sp_WS M) : sp_N M 81 = 6 := ws_N hs 81 6 (by decide) rfl
theorem wsA_82 {M : sp_Mem} (hs : sp_WS M) : sp_ar M 82 0 := ws_T hs 82 0 (by decide) rfl
theorem wsN_82 {M : sp_Mem} (hs : sp_WS M) : sp_N M 82 = 6 := ws_N hs 82 6 (by decide) rfl
theorem wsA_83 {M : sp_Mem} (hs : sp_WS M) : sp_ar M 83 0 := ws_T hs 83 0 (by decide) rfl
theorem wsN_83 {M : sp_Mem} (hs : sp_WS M) : sp_N M 83 = 5 := ws_N hs 83 5 (by decide) rfl
theorem wsA_84 {M : sp_Mem} (hs : sp_WS M) : sp_ar M 84 0 := ws_T hs 84 0 (by decide) rfl
theorem wsN_84 {M : sp_Mem} (hs : sp_WS M) : sp_N M 84 = 5 := ws_N hs 84 5 (by decide) rfl
theorem wsA_85 {M : sp_Mem} (hs : sp_WS M) : sp_ar M 85 0 := ws_T hs 85 0 (by decide) rfl
theorem wsN_85 {M : sp_Mem} (hs : sp_WS M) : sp_N M 85 = 5 := ws_N hs 85 5 (by decide) rfl
theorem wsA_86 {M : sp_Mem} (hs : sp_WS M) : sp_ar M 86 0 := ws_T hs 86 0 (by decide) rfl
theorem wsN_86 {M : sp_Mem} (hs : sp_WS M) : sp_N M 86 = 6 := ws_N hs 86 6 (by decide) rfl
theorem wsA_87 {M : sp_Mem} (hs : sp_WS M) : sp_ar M 87 0 := ws_T hs 87 0 (by decide) rfl
theorem wsN_87 {M : sp_Mem} (hs : sp_WS M) : sp_N M 87 = 6 := ws_N hs 87 6 (by decide) rfl
theorem wsA_88 {M : sp_Mem} (hs : sp_WS M) : sp_ar M 88 0 := ws_T hs 88 0 (by decide) rfl
theorem wsN_88 {M : sp_Mem} (hs : sp_WS M) : sp_N M 88 = 4 := ws_N hs 88 4 (by decide) rfl
theorem wsA_89 {M : sp_Mem} (hs : sp_WS M) : sp_ar M 89 4 := ws_T hs 89 4 (by decide) rfl
theorem wsN_89 {M : sp_Mem} (hs : sp_WS M) : sp_N M 89 = 6 := ws_N hs 89 6 (by decide) rfl
theorem wsA_90 {M : sp_Mem} (hs : sp_WS M) : sp_ar M 90 1 := ws_T hs 90 1 (by decide) rfl
theorem wsN_90 {M : sp_Mem} (hs : sp_WS M) : sp_N M 90 = 25 := ws_N hs 90 25 (by decide) rfl
theorem wsA_91 {M : sp_Mem} (hs : sp_WS M) : sp_ar M 91 1 := ws_T hs 91 1 (by decide) rfl
theorem wsN_91 {M : sp_Mem} (hs : sp_WS M) : sp_N M 91 = 25 := ws_N hs 91 25 (by decide) rfl
theorem wsA_92 {M : sp_Mem} (hs : sp_WS M) : sp_ar M 92 2 := ws_T hs 92 2 (by decide) rfl
theorem wsN_92 {M : sp_Mem} (hs : sp_WS M) : sp_N M 92 = 30 := ws_N hs 92 30 (by decide) rfl
theorem wsA_93 {M : sp_Mem} (hs : sp_WS M) : sp_ar M 93 0 := ws_T hs 93 0 (by decide) rfl
theorem wsN_93 {M : sp_Mem} (hs : sp_WS M) : sp_N M 93 = 6 := ws_N hs 93 6 (by decide) rfl
theorem wsI_94 {M : sp_Mem} (hs : sp_WS M) : sp_is M 94 7 := ws_T hs 94 12 (by decide) rfl
theorem wsA_95 {M : sp_Mem} (hs : sp_WS M) : sp_ar M 95 0 := ws_T hs 95 0 (by decide) rfl
theorem wsN_95 {M : sp_Mem} (hs : sp_WS M) : sp_N M 95 = 400 := ws_N hs 95 400 (by decide) rfl
theorem wsI_96 {M : sp_Mem} (hs : sp_WS M) : sp_is M 96 2 := ws_T hs 96 7 (by decide) rfl
theorem wsI_97 {M : sp_Mem} (hs : sp_WS M) : sp_is M 97 8 := ws_T hs 97 13 (by decide) rfl
theorem wsA_98 {M : sp_Mem} (hs : sp_WS M) : sp_ar M 98 0 := ws_T hs 98 0 (by decide) rfl
theorem wsN_98 {M : sp_Mem} (hs : sp_WS M) : sp_N M 98 = 60 := ws_N hs 98 60 (by decide) rfl
theorem wsA_99 {M : sp_Mem} (hs : sp_WS M) : sp_ar M 99 0 := ws_T hs 99 0 (by decide) rfl
theorem wsN_99 {M : sp_Mem} (hs : sp_WS M) : sp_N M 99 = 400 := ws_N hs 99 400 (by decide) rfl
theorem wsA_100 {M : sp_Mem} (hs : sp_WS M) : sp_ar M 100 0 := ws_T hs 100 0 (by decide) rfl
theorem wsN_100 {M : sp_Mem} (hs : sp_WS M) : sp_N M 100 = 160 := ws_N hs 100 160 (by decide) rfl
theorem wsA_101 {M : sp_Mem} (hs : sp_WS M) : sp_ar M 101 0 := ws_T hs 101 0 (by decide) rfl
theorem wsN_101 {M : sp_Mem} (hs : sp_WS M) : sp_N M 101 = 160 := ws_N hs 101 160 (by decide) rfl
theorem wsA_102 {M : sp_Mem} (hs : sp_WS M) : sp_ar M 102 0 := ws_T hs 102 0 (by decide) rfl
theorem wsN_102 {M : sp_Mem} (hs : sp_WS M) : sp_N M 102 = 7 := ws_N hs 102 7 (by decide) rfl
theorem wsI_103 {M : sp_Mem} (hs : sp_WS M) : sp_is M 103 10 := ws_T hs 103 15 (by decide) rfl
theorem wsA_104 {M : sp_Mem} (hs : sp_WS M) : sp_ar M 104 0 := ws_T hs 104 0 (by decide) rfl
theorem wsN_104 {M : sp_Mem} (hs : sp_WS M) : sp_N M 104 = 7 := ws_N hs 104 7 (by decide) rfl
theorem wsA_105 {M : sp_Mem} (hs : sp_WS M) : sp_ar M 105 0 := ws_T hs 105 0 (by decide) rfl
theorem wsN_105 {M : sp_Mem} (hs : sp_WS M) : sp_N M 105 = 5480 := ws_N hs 105 5480 (by decide) rfl
theorem wsA_106 {M : sp_Mem} (hs : sp_WS M) : sp_ar M 106 0 := ws_T hs 106 0 (by decide) rfl
theorem wsN_106 {M : sp_Mem} (hs : sp_WS M) : sp_N M 106 = 10960 := ws_N hs 106 10960 (by decide) rfl
theorem wsA_107 {M : sp_Mem} (hs : sp_WS M) : sp_ar M 107 2 := ws_T hs 107 2 (by decide) rfl
theorem wsN_107 {M : sp_Mem} (hs : sp_WS M) : sp_N M 107 = 2 := ws_N hs 107 2 (by decide) rfl
theorem wsA_108 {M : sp_Mem} (hs : sp_WS M) : sp_ar M 108 0 := ws_T hs 108 0 (by decide) rfl
theorem wsN_108 {M : sp_Mem} (hs : sp_WS M) : sp_N M 108 = 828 := ws_N hs 108 828 (by decide) rfl
theorem wsA_109 {M : sp_Mem} (hs : sp_WS M) : sp_ar M 109 0 := ws_T hs 109 0 (by decide) rfl
theorem wsN_109 {M : sp_Mem} (hs : sp_WS M) : sp_N M 109 = 16 := ws_N hs 109 16 (by decide) rfl
theorem wsA_110 {M : sp_Mem} (hs : sp_WS M) : sp_ar M 110 0 := ws_T hs 110 0 (by decide) rfl
theorem wsN_110 {M : sp_Mem} (hs : sp_WS M) : sp_N M 110 = 736 := ws_N hs 110 736 (by decide) rfl
theorem wsA_111 {M : sp_Mem} (hs : sp_WS M) : sp_ar M 111 0 := ws_T hs 111 0 (by decide) rfl
theorem wsN_111 {M : sp_Mem} (hs : sp_WS M) : sp_N M 111 = 16 := ws_N hs 111 16 (by decide) rfl
theorem wsA_112 {M : sp_Mem} (hs : sp_WS M) : sp_ar M 112 0 := ws_T hs 112 0 (by decide) rfl
theorem wsN_112 {M : sp_Mem} (hs : sp_WS M) : sp_N M 112 = 400 := ws_N hs 112 400 (by decide) rfl
theorem wsA_113 {M : sp_Mem} (hs : sp_WS M) : sp_ar M 113 0 := ws_T hs 113 0 (by decide) rfl
theorem wsN_113 {M : sp_Mem} (hs : sp_WS M) : sp_N M 113 = 96 := ws_N hs 113 96 (by decide) rfl
theorem wsA_114 {M : sp_Mem} (hs : sp_WS M) : sp_ar M 114 0 := ws_T hs 114 0 (by decide) rfl
theorem wsN_114 {M : sp_Mem} (hs : sp_WS M) : sp_N M 114 = 400 := ws_N hs 114 400 (by decide) rfl
theorem wsA_115 {M : sp_Mem} (hs : sp_WS M) : sp_ar M 115 0 := ws_T hs 115 0 (by decide) rfl
theorem wsN_115 {M : sp_Mem} (hs : sp_WS M) : sp_N M 115 = 400 := ws_N hs 115 400 (by decide) rfl
theorem wsA_116 {M : sp_Mem} (hs : sp_WS M) : sp_ar M 116 0 := ws_T hs 116 0 (by decide) rfl
theorem wsN_116 {M : sp_Mem} (hs : sp_WS M) : sp_N M 116 = 400 := ws_N hs 116 400 (by decide) rfl
theorem wsA_117 {M : sp_Mem} (hs : sp_WS M) : sp_ar M 117 0 := ws_T hs 117 0 (by decide) rfl
theorem wsN_117 {M : sp_Mem} (hs : sp_WS M) : sp_N M 117 = 400 := ws_N hs 117 400 (by decide) rfl
theorem wsA_118 {M : sp_Mem} (hs : sp_WS M) : sp_ar M 118 1 := ws_T hs 118 1 (by decide) rfl
theorem wsN_118 {M : sp_Mem} (hs : sp_WS M) : sp_N M 118 = 10 := ws_N hs 118 10 (by decide) rfl
theorem wsA_119 {M : sp_Mem} (hs : sp_WS M) : sp_ar M 119 1 := ws_T hs 119 1 (by decide) rfl
theorem wsN_119 {M : sp_Mem} (hs : sp_WS M) : sp_N M 119 = 6 := ws_N hs 119 6 (by decide) rfl
theorem wsA_120 {M : sp_Mem} (hs : sp_WS M) : sp_ar M 120 1 := ws_T hs 120 1 (by decide) rfl
theorem wsN_120 {M : sp_Mem} (hs : sp_WS M) : sp_N M 120 = 4 := ws_N hs 120 4 (by decide) rfl
theorem wsA_121 {M : sp_Mem} (hs : sp_WS M) : sp_ar M 121 1 := ws_T hs 121 1 (by decide) rfl
theorem wsN_121 {M : sp_Mem} (hs : sp_WS M) : sp_N M 121 = 13 := ws_N hs 121 13 (by decide) rfl
theorem wsA_122 {M : sp_Mem} (hs : sp_WS M) : sp_ar M 122 1 := ws_T hs 122 1 (by decide) rfl
theorem wsN_122 {M : sp_Mem} (hs : sp_WS M) : sp_N M 122 = 13 := ws_N hs 122 13 (by decide) rfl
theorem wsA_123 {M : sp_Mem} (hs : sp_WS M) : sp_ar M 123 1 := ws_T hs 123 1 (by decide) rfl
theorem wsN_123 {M : sp_Mem} (hs : sp_WS M) : sp_N M 123 = 400 := ws_N hs 123 400 (by decide) rfl
theorem wsA_124 {M : sp_Mem} (hs : sp_WS M) : sp_ar M 124 0 := ws_T hs 124 0 (by decide) rfl
theorem wsN_124 {M : sp_Mem} (hs : sp_WS M) : sp_N M 124 = 6 := ws_N hs 124 6 (by decide) rfl
theorem wsA_125 {M : sp_Mem} (hs : sp_WS M) : sp_ar M 125 0 := ws_T hs 125 0 (by decide) rfl
theorem wsN_125 {M : sp_Mem} (hs : sp_WS M) : sp_N M 125 = 6 := ws_N hs 125 6 (by decide) rfl
theorem wsA_126 {M : sp_Mem} (hs : sp_WS M) : sp_ar M 126 0 := ws_T hs 126 0 (by decide) rfl
theorem wsN_126 {M : sp_Mem} (hs : sp_WS M) : sp_N M 126 = 6 := ws_N hs 126 6 (by decide) rfl
theorem wsA_127 {M : sp_Mem} (hs : sp_WS M) : sp_ar M 127 1 := ws_T hs 127 1 (by decide) rfl
theorem wsN_127 {M : sp_Mem} (hs : sp_WS M) : sp_N M 127 = 25 := ws_N hs 127 25 (by decide) rfl
theorem wsA_128 {M : sp_Mem} (hs : sp_WS M) : sp_ar M 128 1 := ws_T hs 128 1 (by decide) rfl
theorem wsN_128 {M : sp_Mem} (hs : sp_WS M) : sp_N M 128 = 25 := ws_N hs 128 25 (by decide) rfl
theorem wsA_129 {M : sp_Mem} (hs : sp_WS M) : sp_ar M 129 1 := ws_T hs 129 1 (by decide) rfl
theorem wsN_129 {M : sp_Mem} (hs : sp_WS M) : sp_N M 129 = 4 := ws_N hs 129 4 (by decide) rfl
theorem wsA_130 {M : sp_Mem} (hs : sp_WS M) : sp_ar M 130 0 := ws_T hs 130 0 (by decide) rfl
theorem wsN_130 {M : sp_Mem} (hs : sp_WS M) : sp_N M 130 = 96 := ws_N hs 130 96 (by decide) rfl
theorem wsA_131 {M : sp_Mem} (hs : sp_WS M) : sp_ar M 131 0 := ws_T hs 131 0 (by decide) rfl
theorem wsN_131 {M : sp_Mem} (hs : sp_WS M) : sp_N M 131 = 46 := ws_N hs 131 46 (by decide) rfl
theorem wsP_0_0 {M : sp_Mem} (hs : sp_WS M) : sp_P M 0 0 = some 1 := ws_P hs 0 0 1 (by decide)
theorem wsP_0_1 {M : sp_Mem} (hs : sp_WS M) : sp_P M 0 1 = some 5 := ws_P hs 0 1 5 (by decide)
theorem wsP_0_2 {M : sp_Mem} (hs : sp_WS M) : sp_P M 0 2 = some 22 := ws_P hs 0 2 22 (by decide)
theorem wsP_0_3 {M : sp_Mem} (hs : sp_WS M) : sp_P M 0 3 = some 6 := ws_P hs 0 3 6 (by decide)
theorem wsP_0_4 {M : sp_Mem} (hs : sp_WS M) : sp_P M 0 4 = some 39 := ws_P hs 0 4 39 (by decide)
theorem wsP_0_5 {M : sp_Mem} (hs : sp_WS M) : sp_P M 0 5 = some 51 := ws_P hs 0 5 51 (by decide)
theorem wsP_0_6 {M : sp_Mem} (hs : sp_WS M) : sp_P M 0 6 = some 76 := ws_P hs 0 6 76 (by decide)
theorem wsP_0_7 {M : sp_Mem} (hs : sp_WS M) : sp_P M 0 7 = some 77 := ws_P hs 0 7 77 (by decide)
theorem wsP_0_8 {M : sp_Mem} (hs : sp_WS M) : sp_P M 0 8 = some 94 := ws_P hs 0 8 94 (by decide)
theorem wsP_0_9 {M : sp_Mem} (hs : sp_WS M) : sp_P M 0 9 = some 96 := ws_P hs 0 9 96 (by decide)
theorem wsP_0_10 {M : sp_Mem} (hs : sp_WS M) : sp_P M 0 10 = some 102 := ws_P hs 0 10 102 (by decide)
theorem wsP_1_0 {M : sp_Mem} (hs : sp_WS M) : sp_P M 1 0 = some 2 := ws_P hs 1 0 2 (by decide)
theorem wsP_1_1 {M : sp_Mem} (hs : sp_WS M) : sp_P M 1 1 = some 4 := ws_P hs 1 1 4 (by decide)
theorem wsP_2_0 {M : sp_Mem} (hs : sp_WS M) : sp_P M 2 0 = some 3 := ws_P hs 2 0 3 (by decide)
theorem wsP_5_0 {M : sp_Mem} (hs : sp_WS M) : sp_P M 5 0 = some 6 := ws_P hs 5 0 6 (by decide)
theorem wsP_5_1 {M : sp_Mem} (hs : sp_WS M) : sp_P M 5 1 = some 18 := ws_P hs 5 1 18 (by decide)
theorem wsP_5_2 {M : sp_Mem} (hs : sp_WS M) : sp_P M 5 2 = some 1 := ws_P hs 5 2 1 (by decide)
theorem wsP_5_3 {M : sp_Mem} (hs : sp_WS M) : sp_P M 5 3 = some 21 := ws_P hs 5 3 21 (by decide)
theorem wsP_6_0 {M : sp_Mem} (hs : sp_WS M) : sp_P M 6 0 = some 7 := ws_P hs 6 0 7 (by decide)
theorem wsP_6_1 {M : sp_Mem} (hs : sp_WS M) : sp_P M 6 1 = some 8 := ws_P hs 6 1 8 (by decide)
theorem wsP_6_2 {M : sp_Mem} (hs : sp_WS M) : sp_P M 6 2 = some 9 := ws_P hs 6 2 9 (by decide)
theorem wsP_6_3 {M : sp_Mem} (hs : sp_WS M) : sp_P M 6 3 = some 10 := ws_P hs 6 3 10 (by decide)
theorem wsP_6_5 {M : sp_Mem} (hs : sp_WS M) : sp_P M 6 5 = some 11 := ws_P hs 6 5 11 (by decide)
theorem wsP_6_6 {M : sp_Mem} (hs : sp_WS M) : sp_P M 6 6 = some 12 := ws_P hs 6 6 12 (by decide)
theorem wsP_6_7 {M : sp_Mem} (hs : sp_WS M) : sp_P M 6 7 = some 13 := ws_P hs 6 7 13 (by decide)
theorem wsP_6_9 {M : sp_Mem} (hs : sp_WS M) : sp_P M 6 9 = some 14 := ws_P hs 6 9 14 (by decide)
theorem wsP_6_10 {M : sp_Mem} (hs : sp_WS M) : sp_P M 6 10 = some 15 := ws_P hs 6 10 15 (by decide)
theorem wsP_6_12 {M : sp_Mem} (hs : sp_WS M) : sp_P M 6 12 = some 16 := ws_P hs 6 12 16 (by decide)
theorem wsP_6_13 {M : sp_Mem} (hs : sp_WS M) : sp_P M 6 13 = some 17 := ws_P hs 6 13 17 (by decide)
theorem wsP_18_0 {M : sp_Mem} (hs : sp_WS M) : sp_P M 18 0 = some 19 := ws_P hs 18 0 19 (by decide)
theorem wsP_18_1 {M : sp_Mem} (hs : sp_WS M) : sp_P M 18 1 = some 20 := ws_P hs 18 1 20 (by decide)
theorem wsP_22_0 {M : sp_Mem} (hs : sp_WS M) : sp_P M 22 0 = some 23 := ws_P hs 22 0 23 (by decide)
theorem wsP_22_1 {M : sp_Mem} (hs : sp_WS M) : sp_P M 22 1 = some 35 := ws_P hs 22 1 35 (by decide)
theorem wsP_22_2 {M : sp_Mem} (hs : sp_WS M) : sp_P M 22 2 = some 1 := ws_P hs 22 2 1 (by decide)
theorem wsP_22_3 {M : sp_Mem} (hs : sp_WS M) : sp_P M 22 3 = some 38 := ws_P hs 22 3 38 (by decide)
theorem wsP_23_0 {M : sp_Mem} (hs : sp_WS M) : sp_P M 23 0 = some 24 := ws_P hs 23 0 24 (by decide)
theorem wsP_23_1 {M : sp_Mem} (hs : sp_WS M) : sp_P M 23 1 = some 25 := ws_P hs 23 1 25 (by decide)
theorem wsP_23_2 {M : sp_Mem} (hs : sp_WS M) : sp_P M 23 2 = some 26 := ws_P hs 23 2 26 (by decide)
theorem wsP_23_3 {M : sp_Mem} (hs : sp_WS M) : sp_P M 23 3 = some 27 := ws_P hs 23 3 27 (by decide)
theorem wsP_23_5 {M : sp_Mem} (hs : sp_WS M) : sp_P M 23 5 = some 28 := ws_P hs 23 5 28 (by decide)
theorem wsP_23_6 {M : sp_Mem} (hs : sp_WS M) : sp_P M 23 6 = some 29 := ws_P hs 23 6 29 (by decide)
theorem wsP_23_7 {M : sp_Mem} (hs : sp_WS M) : sp_P M 23 7 = some 30 := ws_P hs 23 7 30 (by decide)
theorem wsP_23_9 {M : sp_Mem} (hs : sp_WS M) : sp_P M 23 9 = some 31 := ws_P hs 23 9 31 (by decide)
theorem wsP_23_10 {M : sp_Mem} (hs : sp_WS M) : sp_P M 23 10 = some 32 := ws_P hs 23 10 32 (by decide)
theorem wsP_23_12 {M : sp_Mem} (hs : sp_WS M) : sp_P M 23 12 = some 33 := ws_P hs 23 12 33 (by decide)
theorem wsP_23_13 {M : sp_Mem} (hs : sp_WS M) : sp_P M 23 13 = some 34 := ws_P hs 23 13 34 (by decide)
theorem wsP_35_0 {M : sp_Mem} (hs : sp_WS M) : sp_P M 35 0 = some 36 := ws_P hs 35 0 36 (by decide)
theorem wsP_35_1 {M : sp_Mem} (hs : sp_WS M) : sp_P M 35 1 = some 37 := ws_P hs 35 1 37 (by decide)
theorem wsP_39_0 {M : sp_Mem} (hs : sp_WS M) : sp_P M 39 0 = some 40 := ws_P hs 39 0 40 (by decide)
theorem wsP_39_1 {M : sp_Mem} (hs : sp_WS M) : sp_P M 39 1 = some 41 := ws_P hs 39 1 41 (by decide)
theorem wsP_39_2 {M : sp_Mem} (hs : sp_WS M) : sp_P M 39 2 = some 42 := ws_P hs 39 2 42 (by decide)
theorem wsP_39_3 {M : sp_Mem} (hs : sp_WS M) : sp_P M 39 3 = some 43 := ws_P hs 39 3 43 (by decide)
theorem wsP_39_5 {M : sp_Mem} (hs : sp_WS M) : sp_P M 39 5 = some 44 := ws_P hs 39 5 44 (by decide)
theorem wsP_39_6 {M : sp_Mem} (hs : sp_WS M) : sp_P M 39 6 = some 45 := ws_P hs 39 6 45 (by decide)
theorem wsP_39_7 {M : sp_Mem} (hs : sp_WS M) : sp_P M 39 7 = some 46 := ws_P hs 39 7 46 (by decide)
theorem wsP_39_9 {M : sp_Mem} (hs : sp_WS M) : sp_P M 39 9 = some 47 := ws_P hs 39 9 47 (by decide)
theorem wsP_39_10 {M : sp_Mem} (hs : sp_WS M) : sp_P M 39 10 = some 48 := ws_P hs 39 10 48 (by decide)
theorem wsP_39_12 {M : sp_Mem} (hs : sp_WS M) : sp_P M 39 12 = some 49 := ws_P hs 39 12 49 (by decide)
theorem wsP_39_13 {M : sp_Mem} (hs : sp_WS M) : sp_P M 39 13 = some 50 := ws_P hs 39 13 50 (by decide)
theorem wsP_51_0 {M : sp_Mem} (hs : sp_WS M) : sp_P M 51 0 = some 52 := ws_P hs 51 0 52 (by decide)
theorem wsP_51_1 {M : sp_Mem} (hs : sp_WS M) : sp_P M 51 1 = some 64 := ws_P hs 51 1 64 (by decide)
theorem wsP_52_0 {M : sp_Mem} (hs : sp_WS M) : sp_P M 52 0 = some 53 := ws_P hs 52 0 53 (by decide)
theorem wsP_52_1 {M : sp_Mem} (hs : sp_WS M) : sp_P M 52 1 = some 54 := ws_P hs 52 1 54 (by decide)
theorem wsP_52_2 {M : sp_Mem} (hs : sp_WS M) : sp_P M 52 2 = some 55 := ws_P hs 52 2 55 (by decide)
theorem wsP_52_3 {M : sp_Mem} (hs : sp_WS M) : sp_P M 52 3 = some 56 := ws_P hs 52 3 56 (by decide)
theorem wsP_52_5 {M : sp_Mem} (hs : sp_WS M) : sp_P M 52 5 = some 57 := ws_P hs 52 5 57 (by decide)
theorem wsP_52_6 {M : sp_Mem} (hs : sp_WS M) : sp_P M 52 6 = some 58 := ws_P hs 52 6 58 (by decide)
theorem wsP_52_7 {M : sp_Mem} (hs : sp_WS M) : sp_P M 52 7 = some 59 := ws_P hs 52 7 59 (by decide)
theorem wsP_52_9 {M : sp_Mem} (hs : sp_WS M) : sp_P M 52 9 = some 60 := ws_P hs 52 9 60 (by decide)
theorem wsP_52_10 {M : sp_Mem} (hs : sp_WS M) : sp_P M 52 10 = some 61 := ws_P hs 52 10 61 (by decide)
theorem wsP_52_12 {M : sp_Mem} (hs : sp_WS M) : sp_P M 52 12 = some 62 := ws_P hs 52 12 62 (by decide)
theorem wsP_52_13 {M : sp_Mem} (hs : sp_WS M) : sp_P M 52 13 = some 63 := ws_P hs 52 13 63 (by decide)
theorem wsP_64_0 {M : sp_Mem} (hs : sp_WS M) : sp_P M 64 0 = some 65 := ws_P hs 64 0 65 (by decide)
theorem wsP_64_1 {M : sp_Mem} (hs : sp_WS M) : sp_P M 64 1 = some 66 := ws_P hs 64 1 66 (by decide)
theorem wsP_64_2 {M : sp_Mem} (hs : sp_WS M) : sp_P M 64 2 = some 67 := ws_P hs 64 2 67 (by decide)
theorem wsP_64_3 {M : sp_Mem} (hs : sp_WS M) : sp_P M 64 3 = some 68 := ws_P hs 64 3 68 (by decide)
theorem wsP_64_5 {M : sp_Mem} (hs : sp_WS M) : sp_P M 64 5 = some 69 := ws_P hs 64 5 69 (by decide)
theorem wsP_64_6 {M : sp_Mem} (hs : sp_WS M) : sp_P M 64 6 = some 70 := ws_P hs 64 6 70 (by decide)
theorem wsP_64_7 {M : sp_Mem} (hs : sp_WS M) : sp_P M 64 7 = some 71 := ws_P hs 64 7 71 (by decide)
theorem wsP_64_9 {M : sp_Mem} (hs : sp_WS M) : sp_P M 64 9 = some 72 := ws_P hs 64 9 72 (by decide)
theorem wsP_64_10 {M : sp_Mem} (hs : sp_WS M) : sp_P M 64 10 = some 73 := ws_P hs 64 10 73 (by decide)
theorem wsP_64_12 {M : sp_Mem} (hs : sp_WS M) : sp_P M 64 12 = some 74 := ws_P hs 64 12 74 (by decide)
theorem wsP_64_13 {M : sp_Mem} (hs : sp_WS M) : sp_P M 64 13 = some 75 := ws_P hs 64 13 75 (by decide)
theorem wsP_77_0 {M : sp_Mem} (hs : sp_WS M) : sp_P M 77 0 = some 1 := ws_P hs 77 0 1 (by decide)
theorem wsP_77_1 {M : sp_Mem} (hs : sp_WS M) : sp_P M 77 1 = some 78 := ws_P hs 77 1 78 (by decide)
theorem wsP_77_4 {M : sp_Mem} (hs : sp_WS M) : sp_P M 77 4 = some 92 := ws_P hs 77 4 92 (by decide)
theorem wsP_77_5 {M : sp_Mem} (hs : sp_WS M) : sp_P M 77 5 = some 93 := ws_P hs 77 5 93 (by decide)
theorem wsP_78_0 {M : sp_Mem} (hs : sp_WS M) : sp_P M 78 0 = some 79 := ws_P hs 78 0 79 (by decide)
theorem wsP_78_1 {M : sp_Mem} (hs : sp_WS M) : sp_P M 78 1 = some 80 := ws_P hs 78 1 80 (by decide)
theorem wsP_78_2 {M : sp_Mem} (hs : sp_WS M) : sp_P M 78 2 = some 81 := ws_P hs 78 2 81 (by decide)
theorem wsP_78_3 {M : sp_Mem} (hs : sp_WS M) : sp_P M 78 3 = some 82 := ws_P hs 78 3 82 (by decide)
theorem wsP_78_5 {M : sp_Mem} (hs : sp_WS M) : sp_P M 78 5 = some 83 := ws_P hs 78 5 83 (by decide)
theorem wsP_78_6 {M : sp_Mem} (hs : sp_WS M) : sp_P M 78 6 = some 84 := ws_P hs 78 6 84 (by decide)
theorem wsP_78_7 {M : sp_Mem} (hs : sp_WS M) : sp_P M 78 7 = some 85 := ws_P hs 78 7 85 (by decide)
theorem wsP_78_9 {M : sp_Mem} (hs : sp_WS M) : sp_P M 78 9 = some 86 := ws_P hs 78 9 86 (by decide)
theorem wsP_78_10 {M : sp_Mem} (hs : sp_WS M) : sp_P M 78 10 = some 87 := ws_P hs 78 10 87 (by decide)
theorem wsP_78_12 {M : sp_Mem} (hs : sp_WS M) : sp_P M 78 12 = some 88 := ws_P hs 78 12 88 (by decide)
theorem wsP_78_13 {M : sp_Mem} (hs : sp_WS M) : sp_P M 78 13 = some 89 := ws_P hs 78 13 89 (by decide)
theorem wsP_94_0 {M : sp_Mem} (hs : sp_WS M) : sp_P M 94 0 = some 95 := ws_P hs 94 0 95 (by decide)
theorem wsP_96_0 {M : sp_Mem} (hs : sp_WS M) : sp_P M 96 0 = some 94 := ws_P hs 96 0 94 (by decide)
theorem wsP_96_1 {M : sp_Mem} (hs : sp_WS M) : sp_P M 96 1 = some 97 := ws_P hs 96 1 97 (by decide)
theorem wsP_96_2 {M : sp_Mem} (hs : sp_WS M) : sp_P M 96 2 = some 100 := ws_P hs 96 2 100 (by decide)
theorem wsP_96_3 {M : sp_Mem} (hs : sp_WS M) : sp_P M 96 3 = some 101 := ws_P hs 96 3 101 (by decide)
theorem wsP_97_0 {M : sp_Mem} (hs : sp_WS M) : sp_P M 97 0 = some 98 := ws_P hs 97 0 98 (by decide)
theorem wsP_97_1 {M : sp_Mem} (hs : sp_WS M) : sp_P M 97 1 = some 99 := ws_P hs 97 1 99 (by decide)
theorem wsP_103_2 {M : sp_Mem} (hs : sp_WS M) : sp_P M 103 2 = some 104 := ws_P hs 103 2 104 (by decide)
theorem wsP_103_3 {M : sp_Mem} (hs : sp_WS M) : sp_P M 103 3 = some 105 := ws_P hs 103 3 105 (by decide)
theorem wsP_103_4 {M : sp_Mem} (hs : sp_WS M) : sp_P M 103 4 = some 106 := ws_P hs 103 4 106 (by decide)
theorem wsP_103_5 {M : sp_Mem} (hs : sp_WS M) : sp_P M 103 5 = some 107 := ws_P hs 103 5 107 (by decide)
theorem wsP_103_6 {M : sp_Mem} (hs : sp_WS M) : sp_P M 103 6 = some 108 := ws_P hs 103 6 108 (by decide)
theorem wsP_103_7 {M : sp_Mem} (hs : sp_WS M) : sp_P M 103 7 = some 109 := ws_P hs 103 7 109 (by decide)
theorem wsP_103_9 {M : sp_Mem} (hs : sp_WS M) : sp_P M 103 9 = some 110 := ws_P hs 103 9 110 (by decide)
theorem wsP_103_10 {M : sp_Mem} (hs : sp_WS M) : sp_P M 103 10 = some 111 := ws_P hs 103 10 111 (by decide)
theorem wsP_103_12 {M : sp_Mem} (hs : sp_WS M) : sp_P M 103 12 = some 112 := ws_P hs 103 12 112 (by decide)
theorem wsP_103_22 {M : sp_Mem} (hs : sp_WS M) : sp_P M 103 22 = some 113 := ws_P hs 103 22 113 (by decide)
theorem wsP_103_24 {M : sp_Mem} (hs : sp_WS M) : sp_P M 103 24 = some 114 := ws_P hs 103 24 114 (by decide)
theorem wsP_103_25 {M : sp_Mem} (hs : sp_WS M) : sp_P M 103 25 = some 115 := ws_P hs 103 25 115 (by decide)
theorem wsP_103_27 {M : sp_Mem} (hs : sp_WS M) : sp_P M 103 27 = some 116 := ws_P hs 103 27 116 (by decide)
theorem wsP_103_28 {M : sp_Mem} (hs : sp_WS M) : sp_P M 103 28 = some 117 := ws_P hs 103 28 117 (by decide)
theorem wsP_103_31 {M : sp_Mem} (hs : sp_WS M) : sp_P M 103 31 = some 118 := ws_P hs 103 31 118 (by decide)
theorem wsP_103_32 {M : sp_Mem} (hs : sp_WS M) : sp_P M 103 32 = some 119 := ws_P hs 103 32 119 (by decide)
theorem wsP_103_33 {M : sp_Mem} (hs : sp_WS M) : sp_P M 103 33 = some 120 := ws_P hs 103 33 120 (by decide)
theorem wsP_103_35 {M : sp_Mem} (hs : sp_WS M) : sp_P M 103 35 = some 121 := ws_P hs 103 35 121 (by decide)
theorem wsP_103_36 {M : sp_Mem} (hs : sp_WS M) : sp_P M 103 36 = some 122 := ws_P hs 103 36 122 (by decide)
theorem wsP_103_37 {M : sp_Mem} (hs : sp_WS M) : sp_P M 103 37 = some 123 := ws_P hs 103 37 123 (by decide)
theorem wsP_103_41 {M : sp_Mem} (hs : sp_WS M) : sp_P M 103 41 = some 124 := ws_P hs 103 41 124 (by decide)
theorem wsP_103_42 {M : sp_Mem} (hs : sp_WS M) : sp_P M 103 42 = some 125 := ws_P hs 103 42 125 (by decide)
theorem wsP_103_43 {M : sp_Mem} (hs : sp_WS M) : sp_P M 103 43 = some 126 := ws_P hs 103 43 126 (by decide)
theorem wsP_103_44 {M : sp_Mem} (hs : sp_WS M) : sp_P M 103 44 = some 127 := ws_P hs 103 44 127 (by decide)
theorem wsP_103_45 {M : sp_Mem} (hs : sp_WS M) : sp_P M 103 45 = some 128 := ws_P hs 103 45 128 (by decide)
theorem wsP_103_46 {M : sp_Mem} (hs : sp_WS M) : sp_P M 103 46 = some 129 := ws_P hs 103 46 129 (by decide)
theorem wsP_103_47 {M : sp_Mem} (hs : sp_WS M) : sp_P M 103 47 = some 130 := ws_P hs 103 47 130 (by decide)
theorem wsP_103_53 {M : sp_Mem} (hs : sp_WS M) : sp_P M 103 53 = some 131 := ws_P hs 103 53 131 (by decide)
theorem rmI {M : sp_Mem} {o : Nat} (hs : sp_WS M) (ho : sp_room o) : sp_is M o 4 := by
  rcases ho with rfl | rfl | rfl | rfl | rfl | rfl
  · exact wsI_6 hs
  · exact wsI_23 hs
  · exact wsI_39 hs
  · exact wsI_52 hs
  · exact wsI_64 hs
  · exact wsI_78 hs
theorem rmP_0 {M : sp_Mem} {o : Nat} (hs : sp_WS M) (ho : sp_room o) : sp_P M o 0 = some (o + 1) := by
  rcases ho with rfl | rfl | rfl | rfl | rfl | rfl
  · exact wsP_6_0 hs
  · exact wsP_23_0 hs
  · exact wsP_39_0 hs
  · exact wsP_52_0 hs
  · exact wsP_64_0 hs
  · exact wsP_78_0 hs
theorem rmA_1 {M : sp_Mem} {o : Nat} (hs : sp_WS M) (ho : sp_room o) : sp_ar M (o + 1) 0 := by
  rcases ho with rfl | rfl | rfl | rfl | rfl | rfl
  · exact wsA_7 hs
  · exact wsA_24 hs
  · exact wsA_40 hs
  · exact wsA_53 hs
  · exact wsA_65 hs
  · exact wsA_79 hs
theorem rmN_1 {M : sp_Mem} {o : Nat} (hs : sp_WS M) (ho : sp_room o) : sp_N M (o + 1) = 25 := by
  rcases ho with rfl | rfl | rfl | rfl | rfl | rfl
  · exact wsN_7 hs
  · exact wsN_24 hs
  · exact wsN_40 hs
  · exact wsN_53 hs
  · exact wsN_65 hs
  · exact wsN_79 hs
theorem rmP_1 {M : sp_Mem} {o : Nat} (hs : sp_WS M) (ho : sp_room o) : sp_P M o 1 = some (o + 2) := by
  rcases ho with rfl | rfl | rfl | rfl | rfl | rfl
  · exact wsP_6_1 hs
  · exact wsP_23_1 hs
  · exact wsP_39_1 hs
  · exact wsP_52_1 hs
  · exact wsP_64_1 hs
  · exact wsP_78_1 hs
theorem rmA_2 {M : sp_Mem} {o : Nat} (hs : sp_WS M) (ho : sp_room o) : sp_ar M (o + 2) 0 := by
  rcases ho with rfl | rfl | rfl | rfl | rfl | rfl
  · exact wsA_8 hs
  · exact wsA_25 hs
  · exact wsA_41 hs
  · exact wsA_54 hs
  · exact wsA_66 hs
  · exact wsA_80 hs
theorem rmN_2 {M : sp_Mem} {o : Nat} (hs : sp_WS M) (ho : sp_room o) : sp_N M (o + 2) = 6 := by
  rcases ho with rfl | rfl | rfl | rfl | rfl | rfl
  · exact wsN_8 hs
  · exact wsN_25 hs
  · exact wsN_41 hs
  · exact wsN_54 hs
  · exact wsN_66 hs
  · exact wsN_80 hs
theorem rmP_2 {M : sp_Mem} {o : Nat} (hs : sp_WS M) (ho : sp_room o) : sp_P M o 2 = some (o + 3) := by
  rcases ho with rfl | rfl | rfl | rfl | rfl | rfl
  · exact wsP_6_2 hs
  · exact wsP_23_2 hs
  · exact wsP_39_2 hs
  · exact wsP_52_2 hs
  · exact wsP_64_2 hs
  · exact wsP_78_2 hs
theorem rmA_3 {M : sp_Mem} {o : Nat} (hs : sp_WS M) (ho : sp_room o) : sp_ar M (o + 3) 0 := by
  rcases ho with rfl | rfl | rfl | rfl | rfl | rfl
  · exact wsA_9 hs
  · exact wsA_26 hs
  · exact wsA_42 hs
  · exact wsA_55 hs
  · exact wsA_67 hs
  · exact wsA_81 hs
theorem rmN_3 {M : sp_Mem} {o : Nat} (hs : sp_WS M) (ho : sp_room o) : sp_N M (o + 3) = 6 := by
  rcases ho with rfl | rfl | rfl | rfl | rfl | rfl
  · exact wsN_9 hs
  · exact wsN_26 hs
  · exact wsN_42 hs
  · exact wsN_55 hs
  · exact wsN_67 hs
  · exact wsN_81 hs
theorem rmP_3 {M : sp_Mem} {o : Nat} (hs : sp_WS M) (ho : sp_room o) : sp_P M o 3 = some (o + 4) := by
  rcases ho with rfl | rfl | rfl | rfl | rfl | rfl
  · exact wsP_6_3 hs
  · exact wsP_23_3 hs
  · exact wsP_39_3 hs
  · exact wsP_52_3 hs
  · exact wsP_64_3 hs
  · exact wsP_78_3 hs
theorem rmA_4 {M : sp_Mem} {o : Nat} (hs : sp_WS M) (ho : sp_room o) : sp_ar M (o + 4) 0 := by
  rcases ho with rfl | rfl | rfl | rfl | rfl | rfl
  · exact wsA_10 hs
  · exact wsA_27 hs
  · exact wsA_43 hs
  · exact wsA_56 hs
  · exact wsA_68 hs
  · exact wsA_82 hs
theorem rmN_4 {M : sp_Mem} {o : Nat} (hs : sp_WS M) (ho : sp_room o) : sp_N M (o + 4) = 6 := by
  rcases ho with rfl | rfl | rfl | rfl | rfl | rfl
  · exact wsN_10 hs
  · exact wsN_27 hs
  · exact wsN_43 hs
  · exact wsN_56 hs
  · exact wsN_68 hs
  · exact wsN_82 hs
theorem rmP_5 {M : sp_Mem} {o : Nat} (hs : sp_WS M) (ho : sp_room o) : sp_P M o 5 = some (o + 5) := by
  rcases ho with rfl | rfl | rfl | rfl | rfl | rfl
  · exact wsP_6_5 hs
  · exact wsP_23_5 hs
  · exact wsP_39_5 hs
  · exact wsP_52_5 hs
  · exact wsP_64_5 hs
  · exact wsP_78_5 hs
theorem rmA_5 {M : sp_Mem} {o : Nat} (hs : sp_WS M) (ho : sp_room o) : sp_ar M (o + 5) 0 := by
  rcases ho with rfl | rfl | rfl | rfl | rfl | rfl
  · exact wsA_11 hs
  · exact wsA_28 hs
  · exact wsA_44 hs
  · exact wsA_57 hs
  · exact wsA_69 hs
  · exact wsA_83 hs
theorem rmN_5 {M : sp_Mem} {o : Nat} (hs : sp_WS M) (ho : sp_room o) : sp_N M (o + 5) = 5 := by
  rcases ho with rfl | rfl | rfl | rfl | rfl | rfl
  · exact wsN_11 hs
  · exact wsN_28 hs
  · exact wsN_44 hs
  · exact wsN_57 hs
  · exact wsN_69 hs
  · exact wsN_83 hs
theorem rmP_6 {M : sp_Mem} {o : Nat} (hs : sp_WS M) (ho : sp_room o) : sp_P M o 6 = some (o + 6) := by
  rcases ho with rfl | rfl | rfl | rfl | rfl | rfl
  · exact wsP_6_6 hs
  · exact wsP_23_6 hs
  · exact wsP_39_6 hs
  · exact wsP_52_6 hs
  · exact wsP_64_6 hs
  · exact wsP_78_6 hs
theorem rmA_6 {M : sp_Mem} {o : Nat} (hs : sp_WS M) (ho : sp_room o) : sp_ar M (o + 6) 0 := by
  rcases ho with rfl | rfl | rfl | rfl | rfl | rfl
  · exact wsA_12 hs
  · exact wsA_29 hs
  · exact wsA_45 hs
  · exact wsA_58 hs
  · exact wsA_70 hs
  · exact wsA_84 hs
theorem rmN_6 {M : sp_Mem} {o : Nat} (hs : sp_WS M) (ho : sp_room o) : sp_N M (o + 6) = 5 := by
  rcases ho with rfl | rfl | rfl | rfl | rfl | rfl
  · exact wsN_12 hs
  · exact wsN_29 hs
  · exact wsN_45 hs
  · exact wsN_58 hs
  · exact wsN_70 hs
  · exact wsN_84 hs
theorem rmP_7 {M : sp_Mem} {o : Nat} (hs : sp_WS M) (ho : sp_room o) : sp_P M o 7 = some (o + 7) := by
  rcases ho with rfl | rfl | rfl | rfl | rfl | rfl
  · exact wsP_6_7 hs
  · exact wsP_23_7 hs
  · exact wsP_39_7 hs
  · exact wsP_52_7 hs
  · exact wsP_64_7 hs
  · exact wsP_78_7 hs
theorem rmA_7 {M : sp_Mem} {o : Nat} (hs : sp_WS M) (ho : sp_room o) : sp_ar M (o + 7) 0 := by
  rcases ho with rfl | rfl | rfl | rfl | rfl | rfl
  · exact wsA_13 hs
  · exact wsA_30 hs
  · exact wsA_46 hs
  · exact wsA_59 hs
  · exact wsA_71 hs
  · exact wsA_85 hs
theorem rmN_7 {M : sp_Mem} {o : Nat} (hs : sp_WS M) (ho : sp_room o) : sp_N M (o + 7) = 5 := by
  rcases ho with rfl | rfl | rfl | rfl | rfl | rfl
  · exact wsN_13 hs
  · exact wsN_30 hs
  · exact wsN_46 hs
  · exact wsN_59 hs
  · exact wsN_71 hs
  · exact wsN_85 hs
theorem rmP_9 {M : sp_Mem} {o : Nat} (hs : sp_WS M) (ho : sp_room o) : sp_P M o 9 = some (o + 8) := by
  rcases ho with rfl | rfl | rfl | rfl | rfl | rfl
  · exact wsP_6_9 hs
  · exact wsP_23_9 hs
  · exact wsP_39_9 hs
  · exact wsP_52_9 hs
  · exact wsP_64_9 hs
  · exact wsP_78_9 hs
theorem rmA_8 {M : sp_Mem} {o : Nat} (hs : sp_WS M) (ho : sp_room o) : sp_ar M (o + 8) 0 := by
  rcases ho with rfl | rfl | rfl | rfl | rfl | rfl
  · exact wsA_14 hs
  · exact wsA_31 hs
  · exact wsA_47 hs
  · exact wsA_60 hs
  · exact wsA_72 hs
  · exact wsA_86 hs
theorem rmN_8 {M : sp_Mem} {o : Nat} (hs : sp_WS M) (ho : sp_room o) : sp_N M (o + 8) = 6 := by
  rcases ho with rfl | rfl | rfl | rfl | rfl | rfl
  · exact wsN_14 hs
  · exact wsN_31 hs
  · exact wsN_47 hs
  · exact wsN_60 hs
  · exact wsN_72 hs
  · exact wsN_86 hs
theorem rmP_10 {M : sp_Mem} {o : Nat} (hs : sp_WS M) (ho : sp_room o) : sp_P M o 10 = some (o + 9) := by
  rcases ho with rfl | rfl | rfl | rfl | rfl | rfl
  · exact wsP_6_10 hs
  · exact wsP_23_10 hs
  · exact wsP_39_10 hs
  · exact wsP_52_10 hs
  · exact wsP_64_10 hs
  · exact wsP_78_10 hs
theorem rmA_9 {M : sp_Mem} {o : Nat} (hs : sp_WS M) (ho : sp_room o) : sp_ar M (o + 9) 0 := by
  rcases ho with rfl | rfl | rfl | rfl | rfl | rfl
  · exact wsA_15 hs
  · exact wsA_32 hs
  · exact wsA_48 hs
  · exact wsA_61 hs
  · exact wsA_73 hs
  · exact wsA_87 hs
theorem rmN_9 {M : sp_Mem} {o : Nat} (hs : sp_WS M) (ho : sp_room o) : sp_N M (o + 9) = 6 := by
  rcases ho with rfl | rfl | rfl | rfl | rfl | rfl
  · exact wsN_15 hs
  · exact wsN_32 hs
  · exact wsN_48 hs
  · exact wsN_61 hs
  · exact wsN_73 hs
  · exact wsN_87 hs
theorem rmP_12 {M : sp_Mem} {o : Nat} (hs : sp_WS M) (ho : sp_room o) : sp_P M o 12 = some (o + 10) := by
  rcases ho with rfl | rfl | rfl | rfl | rfl | rfl
  · exact wsP_6_12 hs
  · exact wsP_23_12 hs
  · exact wsP_39_12 hs
  · exact wsP_52_12 hs
  · exact wsP_64_12 hs
  · exact wsP_78_12 hs
theorem rmA_10 {M : sp_Mem} {o : Nat} (hs : sp_WS M) (ho : sp_room o) : sp_ar M (o + 10) 0 := by
  rcases ho with rfl | rfl | rfl | rfl | rfl | rfl
  · exact wsA_16 hs
  · exact wsA_33 hs
  · exact wsA_49 hs
  · exact wsA_62 hs
  · exact wsA_74 hs
  · exact wsA_88 hs
theorem rmN_10 {M : sp_Mem} {o : Nat} (hs : sp_WS M) (ho : sp_room o) : sp_N M (o + 10) = 4 := by
  rcases ho with rfl | rfl | rfl | rfl | rfl | rfl
  · exact wsN_16 hs
  · exact wsN_33 hs
  · exact wsN_49 hs
  · exact wsN_62 hs
  · exact wsN_74 hs
  · exact wsN_88 hs
theorem rmP_13 {M : sp_Mem} {o : Nat} (hs : sp_WS M) (ho : sp_room o) : sp_P M o 13 = some (o + 11) := by
  rcases ho with rfl | rfl | rfl | rfl | rfl | rfl
  · exact wsP_6_13 hs
  · exact wsP_23_13 hs
  · exact wsP_39_13 hs
  · exact wsP_52_13 hs
  · exact wsP_64_13 hs
  · exact wsP_78_13 hs
theorem rmA_11 {M : sp_Mem} {o : Nat} (hs : sp_WS M) (ho : sp_room o) : sp_ar M (o + 11) 4 := by
  rcases ho with rfl | rfl | rfl | rfl | rfl | rfl
  · exact wsA_17 hs
  · exact wsA_34 hs
  · exact wsA_50 hs
  · exact wsA_63 hs
  · exact wsA_75 hs
  · exact wsA_89 hs
theorem rmN_11 {M : sp_Mem} {o : Nat} (hs : sp_WS M) (ho : sp_room o) : sp_N M (o + 11) = 6 := by
  rcases ho with rfl | rfl | rfl | rfl | rfl | rfl
  · exact wsN_17 hs
  · exact wsN_34 hs
  · exact wsN_50 hs
  · exact wsN_63 hs
  · exact wsN_75 hs
  · exact wsN_89 hs
theorem sgI {M : sp_Mem} {o : Nat} (hs : sp_WS M) (ho : sp_stage o) : sp_is M o 6 := by
  rcases ho with rfl | rfl
  · exact wsI_5 hs
  · exact wsI_22 hs
theorem sgP_0 {M : sp_Mem} {o : Nat} (hs : sp_WS M) (ho : sp_stage o) : sp_P M o 0 = some (o + 1) := by
  rcases ho with rfl | rfl
  · exact wsP_5_0 hs
  · exact wsP_22_0 hs
theorem sgP_1 {M : sp_Mem} {o : Nat} (hs : sp_WS M) (ho : sp_stage o) : sp_P M o 1 = some (o + 13) := by
  rcases ho with rfl | rfl
  · exact wsP_5_1 hs
  · exact wsP_22_1 hs
theorem sgP_2 {M : sp_Mem} {o : Nat} (hs : sp_WS M) (ho : sp_stage o) : sp_P M o 2 = some 1 := by
  rcases ho with rfl | rfl
  · exact wsP_5_2 hs
  · exact wsP_22_2 hs
theorem sgP_3 {M : sp_Mem} {o : Nat} (hs : sp_WS M) (ho : sp_stage o) : sp_P M o 3 = some (o + 16) := by
  rcases ho with rfl | rfl
  · exact wsP_5_3 hs
  · exact wsP_22_3 hs
theorem sgA_16 {M : sp_Mem} {o : Nat} (hs : sp_WS M) (ho : sp_stage o) : sp_ar M (o + 16) 0 := by
  rcases ho with rfl | rfl
  · exact wsA_21 hs
  · exact wsA_38 hs
theorem sgN_16 {M : sp_Mem} {o : Nat} (hs : sp_WS M) (ho : sp_stage o) : sp_N M (o + 16) = 16 := by
  rcases ho with rfl | rfl
  · exact wsN_21 hs
  · exact wsN_38 hs
theorem paI {M : sp_Mem} {o : Nat} (hs : sp_WS M) (ho : sp_past o) : sp_is M o 3 := by
  rcases ho with rfl | rfl
  · exact wsI_18 hs
  · exact wsI_35 hs
theorem paP_0 {M : sp_Mem} {o : Nat} (hs : sp_WS M) (ho : sp_past o) : sp_P M o 0 = some (o + 1) := by
  rcases ho with rfl | rfl
  · exact wsP_18_0 hs
  · exact wsP_35_0 hs
theorem paA_1 {M : sp_Mem} {o : Nat} (hs : sp_WS M) (ho : sp_past o) : sp_ar M (o + 1) 0 := by
  rcases ho with rfl | rfl
  · exact wsA_19 hs
  · exact wsA_36 hs
theorem paN_1 {M : sp_Mem} {o : Nat} (hs : sp_WS M) (ho : sp_past o) : sp_N M (o + 1) = 731 := by
  rcases ho with rfl | rfl
  · exact wsN_19 hs
  · exact wsN_36 hs
theorem paP_1 {M : sp_Mem} {o : Nat} (hs : sp_WS M) (ho : sp_past o) : sp_P M o 1 = some (o + 2) := by
  rcases ho with rfl | rfl
  · exact wsP_18_1 hs
  · exact wsP_35_1 hs
theorem paA_2 {M : sp_Mem} {o : Nat} (hs : sp_WS M) (ho : sp_past o) : sp_ar M (o + 2) 0 := by
  rcases ho with rfl | rfl
  · exact wsA_20 hs
  · exact wsA_37 hs
theorem paN_2 {M : sp_Mem} {o : Nat} (hs : sp_WS M) (ho : sp_past o) : sp_N M (o + 2) = 17 := by
  rcases ho with rfl | rfl
  · exact wsN_20 hs
  · exact wsN_37 hs
theorem wdA {M : sp_Mem} {o : Nat} (hs : sp_WS M) (ho : sp_words o) : sp_ar M o 0 := by
  rcases ho with rfl | rfl | rfl
  · exact wsA_4 hs
  · exact wsA_21 hs
  · exact wsA_38 hs
theorem rwA {M : sp_Mem} {o : Nat} (hs : sp_WS M) (ho : sp_rows o) : sp_ar M o 0 := by
  rcases ho with rfl | rfl
  · exact wsA_19 hs
  · exact wsA_36 hs
theorem rwN {M : sp_Mem} {o : Nat} (hs : sp_WS M) (ho : sp_rows o) : sp_N M o = 731 := by
  rcases ho with rfl | rfl
  · exact wsN_19 hs
  · exact wsN_36 hs
theorem hfA {M : sp_Mem} {o : Nat} (hs : sp_WS M) (ho : sp_half o) : sp_ar M o 1 := by
  rcases ho with rfl | rfl
  · exact wsA_90 hs
  · exact wsA_91 hs
theorem hfN {M : sp_Mem} {o : Nat} (hs : sp_WS M) (ho : sp_half o) : sp_N M o = 25 := by
  rcases ho with rfl | rfl
  · exact wsN_90 hs
  · exact wsN_91 hs
theorem room_6 : sp_room 6 := by simp [sp_room]
theorem room_23 : sp_room 23 := by simp [sp_room]
theorem room_39 : sp_room 39 := by simp [sp_room]
theorem room_52 : sp_room 52 := by simp [sp_room]
theorem room_64 : sp_room 64 := by simp [sp_room]
theorem room_78 : sp_room 78 := by simp [sp_room]
theorem stage_5 : sp_stage 5 := by simp [sp_stage]
theorem stage_22 : sp_stage 22 := by simp [sp_stage]
theorem past_18 : sp_past 18 := by simp [sp_past]
theorem past_35 : sp_past 35 := by simp [sp_past]
theorem words_4 : sp_words 4 := by simp [sp_words]
theorem words_21 : sp_words 21 := by simp [sp_words]
theorem words_38 : sp_words 38 := by simp [sp_words]
theorem rows_19 : sp_rows 19 := by simp [sp_rows]
theorem rows_36 : sp_rows 36 := by simp [sp_rows]
theorem sg_room {o : Nat} (h : sp_stage o) : sp_room (o + 1) := by rcases h with rfl | rfl <;> simp [sp_room]
theorem sg_past {o : Nat} (h : sp_stage o) : sp_past (o + 13) := by rcases h with rfl | rfl <;> simp [sp_past]
theorem sg_words {o : Nat} (h : sp_stage o) : sp_words (o + 16) := by rcases h with rfl | rfl <;> simp [sp_words]
theorem pa_rows {o : Nat} (h : sp_past o) : sp_rows (o + 1) := by rcases h with rfl | rfl <;> simp [sp_rows]
theorem text_97 {M : sp_Mem} (hs : sp_WS M) : sp_text M 97 := ⟨wsI_97 hs, wsP_97_0 hs, wsP_97_1 hs, wsA_98 hs, wsA_99 hs⟩
theorem img_room {M : sp_Mem} (hs : sp_WS M) {k o : Nat} (hk : k < 2) (h : sp_P M 51 k = some o) : sp_room o := by
  rcases (show k = 0 ∨ k = 1 by omega) with rfl | rfl
  · rw [wsP_51_0 hs] at h; cases h; exact room_52
  · rw [wsP_51_1 hs] at h; cases h; exact room_64
theorem rm_text {M : sp_Mem} (hs : sp_WS M) {o k t : Nat} (ho : sp_room o) (h : sp_P M (o + 11) k = some t) : sp_text M t := hs.2.2.2.2.2.2 o ho k t h
def sp_ix (n : Nat) (i : Int32) : Option Nat := if i < 0 ∨ n ≤ i.toNatClampNeg then none else some i.toNatClampNeg
theorem sp_ix_in {n j : Nat} {i : Int32} (h : sp_ix n i = some j) : vp_in i n ∧ i.toNatClampNeg = j := by
  unfold sp_ix at h
  by_cases hc : i < 0 ∨ n ≤ i.toNatClampNeg
  · rw [if_pos hc] at h; cases h
  · rw [if_neg hc] at h; exact ⟨hc, Option.some.inj h⟩
def sp_do {α β : Type} (a : α) (f : α → β) : β := f a
theorem sp_do_e {α β : Type} {a : α} {f : α → β} {r : β} (h : sp_do a f = r) : ∃ x, a = x ∧ f x = r := ⟨a, rfl, h⟩
def sp_msk : List Bool → List (Option Value) → List (Option Value)
  | [], l => l
  | _, [] => []
  | true :: m, a :: l => a :: sp_msk m l
  | false :: m, _ :: l => none :: sp_msk m l
theorem sp_msk_get : ∀ (m : List Bool) (l : List (Option Value)) (k : Nat) (v : Value), (sp_msk m l)[k]? = some (some v) → l[k]? = some (some v)
  | [], l, k, v, h => by rw [sp_msk] at h; exact h
  | _ :: _, [], k, v, h => by simp [sp_msk] at h
  | true :: m, a :: l, 0, v, h => by simpa [sp_msk] using h
  | true :: m, a :: l, k + 1, v, h => by simp only [sp_msk, List.getElem?_cons_succ] at h ⊢; exact sp_msk_get m l k v h
  | false :: m, a :: l, 0, v, h => by simp [sp_msk] at h
  | false :: m, a :: l, k + 1, v, h => by simp only [sp_msk, List.getElem?_cons_succ] at h ⊢; exact sp_msk_get m l k v h
section SpRow2
variable {g : sp_G} {Ω : sp_Mem → Prop} {μ μ' : sp_MD} {mc ms pc : Nat} {lo : List (Option Value)} {st : List Value} {M M1 : sp_Mem} {Q : sp_Qt}
/-- fewer locals known -/
theorem sp_weak (m : List Bool) (lo' : List (Option Value)) (h : sp_msk m lo = lo') (k : sp_Wp g Ω μ mc ms pc lo' st M Q) : sp_Wp g Ω μ mc ms pc lo st M Q := by
  subst h
  exact fun ho p e R s m0 args below meth c H locs cells slots ls C hH hS hl h0 h1 h2 => k ho p e R s m0 args below meth c H locs cells slots ls C hH hS ⟨hl.1, hl.2.1, fun q v hq => hl.2.2 q v (sp_msk_get m lo q v hq)⟩ h0 h1 h2
theorem sp_topi {x y : Int32} (h : x = y) (k : sp_Wp g Ω μ mc ms pc lo (.int y :: st) M Q) : sp_Wp g Ω μ mc ms pc lo (.int x :: st) M Q := h ▸ k
theorem sp_topl {x y : Int64} (h : x = y) (k : sp_Wp g Ω μ mc ms pc lo (.long y :: st) M Q) : sp_Wp g Ω μ mc ms pc lo (.long x :: st) M Q := h ▸ k
theorem sp_topr {x y : Option Nat} (h : x = y) (k : sp_Wp g Ω μ mc ms pc lo (va_rf y :: st) M Q) : sp_Wp g Ω μ mc ms pc lo (va_rf x :: st) M Q := h ▸ k
theorem sp_getI {i o c j : Nat} (r : vw_C) (d : decode μ.2.1 pc = .ok (.getfield i, 3)) (hc : sp_cl c r) (hj : j < r.2.2) (hl : Cond.fieldLink μ.1.cls i r.1 (r.2.1 j).2.1 (r.2.1 j).2.2.1 ∈ sp_tb) (ho : sp_is M o c) (ht : sp_ty c j = .int ∨ sp_ty c j = .boolean) (k : sp_Wp g Ω μ mc ms (pc + 3) lo (.int (sp_I M o j) :: st) M Q) : sp_Wp g Ω μ mc ms pc lo (.ref o :: st) M Q :=
  sp_get r d hc hj hl ho (by rcases ht with h | h <;> rw [h] <;> exact k)
theorem sp_getL {i o c j : Nat} (r : vw_C) (d : decode μ.2.1 pc = .ok (.getfield i, 3)) (hc : sp_cl c r) (hj : j < r.2.2) (hl : Cond.fieldLink μ.1.cls i r.1 (r.2.1 j).2.1 (r.2.1 j).2.2.1 ∈ sp_tb) (ho : sp_is M o c) (ht : sp_ty c j = .long) (k : sp_Wp g Ω μ mc ms (pc + 3) lo (.long (sp_L M o j) :: st) M Q) : sp_Wp g Ω μ mc ms pc lo (.ref o :: st) M Q :=
  sp_get r d hc hj hl ho (by rw [ht]; exact k)
theorem sp_getR {i o c j a : Nat} (r : vw_C) (d : decode μ.2.1 pc = .ok (.getfield i, 3)) (hc : sp_cl c r) (hj : j < r.2.2) (hl : Cond.fieldLink μ.1.cls i r.1 (r.2.1 j).2.1 (r.2.1 j).2.2.1 ∈ sp_tb) (ho : sp_is M o c) (ht : (∃ C, sp_ty c j = .object C) ∨ ∃ t, sp_ty c j = .array t) (hp : sp_P M o j = some a) (k : sp_Wp g Ω μ mc ms (pc + 3) lo (.ref a :: st) M Q) : sp_Wp g Ω μ mc ms pc lo (.ref o :: st) M Q :=
  sp_get r d hc hj hl ho (by rcases ht with ⟨_, h⟩ | ⟨_, h⟩ <;> rw [h] <;> (show sp_Wp g Ω μ mc ms (pc + 3) lo (va_rf (sp_P M o j) :: st) M Q) <;> rw [hp] <;> exact k)
theorem sp_iald2 {a N j : Nat} {i : Int32} (d : decode μ.2.1 pc = .ok (.iaload, 1)) (ha : sp_ar M a 0) (hN : sp_N M a = N) (hi : sp_ix N i = some j) (k : sp_Wp g Ω μ mc ms (pc + 1) lo (.int (sp_I M a j) :: st) M Q) : sp_Wp g Ω μ mc ms pc lo (.int i :: .ref a :: st) M Q := by
  obtain ⟨h1, rfl⟩ := sp_ix_in hi
  exact sp_iald d ha (by rw [hN]; exact h1) k
theorem sp_zald2 {a N j : Nat} {i : Int32} (d : decode μ.2.1 pc = .ok (.baload, 1)) (ha : sp_ar M a 2) (hN : sp_N M a = N) (hi : sp_ix N i = some j) (k : sp_Wp g Ω μ mc ms (pc + 1) lo (.int (sp_I M a j) :: st) M Q) : sp_Wp g Ω μ mc ms pc lo (.int i :: .ref a :: st) M Q := by
  obtain ⟨h1, rfl⟩ := sp_ix_in hi
  exact sp_zald d ha (by rw [hN]; exact h1) k
theorem sp_lald2 {a N j : Nat} {i : Int32} (d : decode μ.2.1 pc = .ok (.laload, 1)) (ha : sp_ar M a 1) (hN : sp_N M a = N) (hi : sp_ix N i = some j) (k : sp_Wp g Ω μ mc ms (pc + 1) lo (.long (sp_L M a j) :: st) M Q) : sp_Wp g Ω μ mc ms pc lo (.int i :: .ref a :: st) M Q := by
  obtain ⟨h1, rfl⟩ := sp_ix_in hi
  exact sp_lald d ha (by rw [hN]; exact h1) k
theorem sp_aald2 {a N j : Nat} {i : Int32} (t : Nat) (ht : t = 3 ∨ t = 4) (d : decode μ.2.1 pc = .ok (.aaload, 1)) (ha : sp_ar M a t) (hN : sp_N M a = N) (hi : sp_ix N i = some j) (k : sp_Wp g Ω μ mc ms (pc + 1) lo (va_rf (sp_P M a j) :: st) M Q) : sp_Wp g Ω μ mc ms pc lo (.int i :: .ref a :: st) M Q := by
  obtain ⟨h1, rfl⟩ := sp_ix_in hi
  exact sp_aald t ht d ha (by rw [hN]; exact h1) k
theorem sp_iast2 {a N j : Nat} {i x : Int32} (hG : sp_Ok Ω) (d : decode μ.2.1 pc = .ok (.iastore, 1)) (ha : sp_ar M a 0) (hN : sp_N M a = N) (hi : sp_ix N i = some j) (hM : sp_setI M a j x = M1) (k : sp_Wp g Ω μ mc ms (pc + 1) lo st M1 Q) : sp_Wp g Ω μ mc ms pc lo (.int x :: .int i :: .ref a :: st) M Q := by
  obtain ⟨h1, rfl⟩ := sp_ix_in hi
  subst hM
  exact sp_iast d ha (by rw [hN]; exact h1) hG.I k
theorem sp_zast2 {a N j : Nat} {i x : Int32} (hG : sp_Ok Ω) (d : decode μ.2.1 pc = .ok (.bastore, 1)) (ha : sp_ar M a 2) (hN : sp_N M a = N) (hi : sp_ix N i = some j) (hM : sp_setI M a j (vp_nar .boolean x) = M1) (k : sp_Wp g Ω μ mc ms (pc + 1) lo st M1 Q) : sp_Wp g Ω μ mc ms pc lo (.int x :: .int i :: .ref a :: st) M Q := by
  obtain ⟨h1, rfl⟩ := sp_ix_in hi
  subst hM
  exact sp_zast d ha (by rw [hN]; exact h1) hG.I k
theorem sp_last2 {a N j : Nat} {i : Int32} {x : Int64} (hG : sp_Ok Ω) (d : decode μ.2.1 pc = .ok (.lastore, 1)) (ha : sp_ar M a 1) (hN : sp_N M a = N) (hi : sp_ix N i = some j) (hM : sp_setL M a j x = M1) (k : sp_Wp g Ω μ mc ms (pc + 1) lo st M1 Q) : sp_Wp g Ω μ mc ms pc lo (.long x :: .int i :: .ref a :: st) M Q := by
  obtain ⟨h1, rfl⟩ := sp_ix_in hi
  subst hM
  exact sp_last d ha (by rw [hN]; exact h1) hG.L k
theorem sp_putI2 {i o c j : Nat} {x : Int32} (r : vw_C) (hG : sp_Ok Ω) (d : decode μ.2.1 pc = .ok (.putfield i, 3)) (hc : sp_cl c r) (hj : j < r.2.2) (hl : Cond.fieldLink μ.1.cls i r.1 (r.2.1 j).2.1 (r.2.1 j).2.2.1 ∈ sp_tb) (hfin : (r.2.1 j).2.2.2 = false) (hty : sp_ty c j = .int ∨ (sp_ty c j = .boolean ∧ (x = 0 ∨ x = 1))) (ho : sp_is M o c) (hM : sp_setI M o j x = M1) (k : sp_Wp g Ω μ mc ms (pc + 3) lo st M1 Q) : sp_Wp g Ω μ mc ms pc lo (.int x :: .ref o :: st) M Q := by
  subst hM
  exact sp_putI r d hc hj hl (Or.inl hfin) hty ho hG.I k
theorem sp_putL2 {i o c j : Nat} {x : Int64} (r : vw_C) (hG : sp_Ok Ω) (d : decode μ.2.1 pc = .ok (.putfield i, 3)) (hc : sp_cl c r) (hj : j < r.2.2) (hl : Cond.fieldLink μ.1.cls i r.1 (r.2.1 j).2.1 (r.2.1 j).2.2.1 ∈ sp_tb) (hfin : (r.2.1 j).2.2.2 = false) (hty : sp_ty c j = .long) (ho : sp_is M o c) (hM : sp_setL M o j x = M1) (k : sp_Wp g Ω μ mc ms (pc + 3) lo st M1 Q) : sp_Wp g Ω μ mc ms pc lo (.long x :: .ref o :: st) M Q := by
  subst hM
  exact sp_putL r d hc hj hl (Or.inl hfin) hty ho hG.L k
theorem sp_cS {i n : Nat} {r : Option Value} (av : List Value) (st0 st1 : List Value) (d : decode μ.2.1 pc = .ok (.invokestatic i, 3)) (hm : sp_m μ' n) (hl : Cond.methodLink μ.1.cls i μ'.1 ∈ sp_tb) (hst : Cond.static μ'.1 ∈ sp_tb) (hfr : μ'.2.2.2.2.1 + 1 ≤ μ.2.2.2.2.1) (hlc : 8 + (μ'.2.2.1 + 11) + μ'.2.2.2.2.2 ≤ μ.2.2.2.2.2) (hn : av.length = n) (hcat : (st.map fun v => v.category).sum ≤ 8) (hs : av.reverse ++ st = st0) (hs1 : r.toList ++ st = st1) (call : ∀ Q' : sp_Qt, Q' r M1 → sp_Mt g Ω μ' 0 0 av M Q')
    (k : sp_Wp g Ω μ mc ms (pc + 3) lo st1 M1 Q) : sp_Wp g Ω μ mc ms pc lo st0 M Q :=
  sp_bud (Nat.zero_add mc) (Nat.zero_add ms) <| sp_callS (mc1 := 0) (ms1 := 0) (mc := mc) (ms := ms) (Qc := fun r' M' => r' = r ∧ M' = M1) av d hm hl hst hfr hlc hn hcat (fun _ _ _ h1 h2 => by omega) (call _ ⟨rfl, rfl⟩) (fun r' M' hq => by obtain ⟨rfl, rfl⟩ := hq; rw [hs1]; exact k) st0 hs
theorem sp_cSN {i n : Nat} {r : Option Value} (av : List Value) (st0 st1 : List Value) (d : decode μ.2.1 pc = .ok (.invokestatic i, 3)) (hm : sp_m μ' n) (hl : (μ.1.cls, i, μ'.1) ∈ sp_nest) (hst : Cond.static μ'.1 ∈ sp_tb) (hfr : μ'.2.2.2.2.1 + 1 ≤ μ.2.2.2.2.1) (hlc : 8 + (μ'.2.2.1 + 11) + μ'.2.2.2.2.2 ≤ μ.2.2.2.2.2) (hn : av.length = n) (hcat : (st.map fun v => v.category).sum ≤ 8) (hs : av.reverse ++ st = st0) (hs1 : r.toList ++ st = st1) (call : ∀ Q' : sp_Qt, Q' r M1 → sp_Mt g Ω μ' 0 0 av M Q')
    (k : sp_Wp g Ω μ mc ms (pc + 3) lo st1 M1 Q) : sp_Wp g Ω μ mc ms pc lo st0 M Q :=
  sp_bud (Nat.zero_add mc) (Nat.zero_add ms) <| sp_callSN (mc1 := 0) (ms1 := 0) (mc := mc) (ms := ms) (Qc := fun r' M' => r' = r ∧ M' = M1) av d hm hl hst hfr hlc hn hcat (fun _ _ _ h1 h2 => by omega) (call _ ⟨rfl, rfl⟩) (fun r' M' hq => by obtain ⟨rfl, rfl⟩ := hq; rw [hs1]; exact k) st0 hs
theorem sp_cV {i n o c : Nat} {r : Option Value} (rc : vw_C) (av : List Value) (st0 st1 : List Value) (d : decode μ.2.1 pc = .ok (.invokevirtual i, 3)) (hm : sp_m μ' n) (hl : Cond.methodLink μ.1.cls i μ'.1 ∈ sp_tb) (hst : Cond.instanceMethod μ'.1 ∈ sp_tb) (hsel : Cond.selects μ'.1.cls μ'.1 μ'.1 ∈ sp_tb) (hfr : μ'.2.2.2.2.1 + 1 ≤ μ.2.2.2.2.1) (hlc : 8 + (μ'.2.2.1 + 11) + μ'.2.2.2.2.2 ≤ μ.2.2.2.2.2) (hn : av.length = n) (hcat : (st.map fun v => v.category).sum ≤ 8) (hs : av.reverse ++ .ref o :: st = st0) (hs1 : r.toList ++ st = st1) (hc : vwCl[c]? = some rc) (hrn : rc.1 = μ'.1.cls) (ho : sp_is M o c) (call : ∀ Q' : sp_Qt, Q' r M1 → sp_Mt g Ω μ' 0 0 (.ref o :: av) M Q')
    (k : sp_Wp g Ω μ mc ms (pc + 3) lo st1 M1 Q) : sp_Wp g Ω μ mc ms pc lo st0 M Q :=
  sp_bud (Nat.zero_add mc) (Nat.zero_add ms) <| sp_callV (mc1 := 0) (ms1 := 0) (mc := mc) (ms := ms) (Qc := fun r' M' => r' = r ∧ M' = M1) rc av d hm hl hst hsel hfr hlc hn hcat (fun _ _ _ h1 h2 => by omega) hc hrn ho (call _ ⟨rfl, rfl⟩) (fun r' M' hq => by obtain ⟨rfl, rfl⟩ := hq; rw [hs1]; exact k) st0 hs
end SpRow2
