/-! ===== simple calls ===== -/
def djAll (A : List Nat) (B : List (Nat × Nat)) : Bool := okA A B && (dj [17, 34, 50, 63, 75, 89] (wsB ++ [(77, 2), (77, 3)]) A B && (dj [7, 8, 9, 10, 11, 12, 13, 14, 15, 16, 17, 105] [(6, 4), (6, 8), (6, 11), (6, 14), (6, 15)] A B && (dj [19, 20, 108, 109, 105] [(18, 2), (18, 3), (103, 8)] A B && (dj [95, 112] [(94, 1), (103, 13)] A B && (dj [102, 104] [(0, 12), (0, 13), (0, 14), (0, 15), (103, 1), (103, 11), (103, 18), (103, 50), (103, 20)] A B && (dj [76, 106, 107, 53, 54, 55, 56, 57, 58, 59, 60, 61, 62, 63, 65, 66, 67, 68, 69, 70, 71, 72, 73, 74, 75] [(52, 4), (52, 8), (52, 11), (52, 14), (52, 15), (64, 4), (64, 8), (64, 11), (64, 14), (64, 15)] A B && (dj [41, 42, 44, 131] [(0, 11), (39, 4), (39, 8), (103, 54), (103, 55)] A B && dj [118, 119, 120, 129] [(77, 2), (77, 3)] A B)))))))
theorem Inv_keep {A : List Nat} {B : List (Nat × Nat)} {M M' : sp_Mem} {k : Nat} (h : sp_fr A B M M') (hd : djAll A B = true) (hI : Inv k M) : Inv (k + 1) M' := by
  unfold djAll at hd
  simp only [Bool.and_eq_true] at hd
  exact Inv_step h hI hd.1 (Or.inl hd.2.1) (Or.inl hd.2.2.1) (Or.inl hd.2.2.2.1) (Or.inl hd.2.2.2.2.1) (Or.inl hd.2.2.2.2.2.1) (Or.inl hd.2.2.2.2.2.2.1) (Or.inl hd.2.2.2.2.2.2.2.1) hd.2.2.2.2.2.2.2.2
theorem Inv_thrown {M : sp_Mem} {k : Nat} (hI : Inv k M) : Inv (k + 1) (sp_setI M 103 0 0) := Inv_keep (A := []) (B := [(103, 0)]) (sp_fr_I (Or.inr (by decide)) rfl) (by decide +kernel) hI
section RoomFacts
variable {M : sp_Mem} {o : Nat} {r : Nat → Int32}
theorem rm_s (h : i_Room M o r) : sp_I M o 4 = r 0 := h 0 (by omega)
theorem rm_p (h : i_Room M o r) : sp_I M o 8 = r 1 := h 1 (by omega)
theorem rm_a (h : i_Room M o r) : sp_I M o 11 = r 2 := h 2 (by omega)
theorem rm_l (h : i_Room M o r) : sp_I M o 14 = r 3 := h 3 (by omega)
theorem rm_f (h : i_Room M o r) : sp_I M o 15 = r 4 := h 4 (by omega)
theorem rm_term (h : i_Room M o r) {k : Nat} (hk : k < 4) : sp_I M (o + 10) k = r (5 + k) := (ro_term M o hk).symm.trans (h _ (by omega))
theorem rm_cell (h : i_Room M o r) {k : Nat} (hk : k < 6) : sp_I M (o + 2) k = r (9 + k) := (ro_cell M o hk).symm.trans (h _ (by omega))
theorem rm_heat (h : i_Room M o r) {k : Nat} (hk : k < 6) : sp_I M (o + 3) k = r (15 + k) := (ro_heat M o hk).symm.trans (h _ (by omega))
theorem rm_stand (h : i_Room M o r) {k : Nat} (hk : k < 5) : sp_I M (o + 5) k = r (21 + k) := (ro_stand M o hk).symm.trans (h _ (by omega))
theorem rm_kind (h : i_Room M o r) {k : Nat} (hk : k < 25) : sp_I M (o + 1) k = r (26 + k) := (ro_kind M o hk).symm.trans (h _ (by omega))
theorem rm_name (h : i_Room M o r) {k : Nat} (hk : k < 6) : sp_I M (o + 4) k = r (51 + k) := (ro_name M o hk).symm.trans (h _ (by omega))
theorem rm_reach (h : i_Room M o r) {k : Nat} (hk : k < 5) : sp_I M (o + 6) k = r (57 + k) := (ro_reach M o hk).symm.trans (h _ (by omega))
theorem rm_know (h : i_Room M o r) {k : Nat} (hk : k < 5) : sp_I M (o + 7) k = r (62 + k) := (ro_know M o hk).symm.trans (h _ (by omega))
theorem rm_ask (h : i_Room M o r) {k : Nat} (hk : k < 6) : sp_I M (o + 8) k = r (67 + 2 * k) := (ro_ask M o).symm.trans (h _ (by omega))
theorem rm_rep (h : i_Room M o r) {k : Nat} (hk : k < 6) : sp_I M (o + 9) k = r (68 + 2 * k) := (ro_rep M o).symm.trans (h _ (by omega))
/-- a room is known by its fields -/
theorem rm_mk (h0 : sp_I M o 4 = r 0) (h1 : sp_I M o 8 = r 1) (h2 : sp_I M o 11 = r 2) (h3 : sp_I M o 14 = r 3) (h4 : sp_I M o 15 = r 4) (ht : ∀ k, k < 4 → sp_I M (o + 10) k = r (5 + k)) (hc : ∀ k, k < 6 → sp_I M (o + 2) k = r (9 + k)) (hh : ∀ k, k < 6 → sp_I M (o + 3) k = r (15 + k)) (hs : ∀ k, k < 5 → sp_I M (o + 5) k = r (21 + k)) (hk : ∀ k, k < 25 → sp_I M (o + 1) k = r (26 + k)) (hn : ∀ k, k < 6 → sp_I M (o + 4) k = r (51 + k)) (hr : ∀ k, k < 5 → sp_I M (o + 6) k = r (57 + k)) (hw : ∀ k, k < 5 → sp_I M (o + 7) k = r (62 + k)) (ha : ∀ k, k < 6 → sp_I M (o + 8) k = r (67 + 2 * k)) (hp : ∀ k, k < 6 → sp_I M (o + 9) k = r (68 + 2 * k)) : i_Room M o r := by
  intro i hi
  unfold rowOf
  split
  · split
    · subst i; exact h0
    · split
      · subst i; exact h1
      · split
        · subst i; exact h2
        · split
          · subst i; exact h3
          · rw [show i = 4 by omega]; exact h4
  · split
    · rw [ht _ (by omega)]; congr 1; omega
    · split
      · rw [hc _ (by omega)]; congr 1; omega
      · split
        · rw [hh _ (by omega)]; congr 1; omega
        · split
          · rw [hs _ (by omega)]; congr 1; omega
          · split
            · rw [hk _ (by omega)]; congr 1; omega
            · split
              · rw [hn _ (by omega)]; congr 1; omega
              · split
                · rw [hr _ (by omega)]; congr 1; omega
                · split
                  · rw [hw _ (by omega)]; congr 1; omega
                  · split
                    · rw [ha _ (by omega)]; congr 1; omega
                    · rw [hp _ (by omega)]; congr 1; omega
theorem has_s {n : Nat} (hn : n < 100) (h : sp_I M o 4 = nI n) (a : Int32) : (fX5_hasSpark M o a = 0) = ¬ (0 ≤ a.toInt ∧ a.toInt < n) := by
  unfold fX5_hasSpark
  simp only [h, n_lt, n_le, nI_toInt (show n < 2 ^ 31 by omega), show (0 : Int32).toInt = 0 from rfl]
  apply propext
  split
  · simp; omega
  · split
    · simp; omega
    · simp; omega
theorem has_p {n : Nat} (hn : n < 100) (h : sp_I M o 8 = nI n) (a : Int32) : (fX5_hasPerson M o a = 0) = ¬ (0 ≤ a.toInt ∧ a.toInt < n) := by
  unfold fX5_hasPerson
  simp only [h, n_lt, n_le, nI_toInt (show n < 2 ^ 31 by omega), show (0 : Int32).toInt = 0 from rfl]
  apply propext
  split
  · simp; omega
  · split
    · simp; omega
    · simp; omega
theorem has_l {n : Nat} (hn : n < 100) (h : sp_I M o 14 = nI n) (a : Int32) : (fX5_hasLaw M o a = 0) = ¬ (0 ≤ a.toInt ∧ a.toInt < n) := by
  unfold fX5_hasLaw
  simp only [h, n_lt, n_le, nI_toInt (show n < 2 ^ 31 by omega), show (0 : Int32).toInt = 0 from rfl]
  apply propext
  split
  · simp; omega
  · split
    · simp; omega
    · simp; omega
theorem in_n {n : Nat} (hn : n < 100) (x : Int32) (h : x = nI n) (a : Int32) : (fX11_in (Int32.toInt64 a) 0 ((Int32.toInt64 x) - 1) = 0) = ¬ (0 ≤ a.toInt ∧ a.toInt < n) := by
  have e : ((Int32.toInt64 x) - 1).toInt = (n : Int) - 1 := by
    rw [l_sub, n_l, h, nI_toInt (by omega)]
    · rfl
    · rw [n_l, h, nI_toInt (by omega), show (1 : Int64).toInt = 1 from rfl]; omega
    · rw [n_l, h, nI_toInt (by omega), show (1 : Int64).toInt = 1 from rfl]; omega
  rw [m_in, n_l, e, show (0 : Int64).toInt = 0 from rfl]
  apply propext
  constructor <;> intro h <;> omega
theorem is_s {n : Nat} (hn : n < 100) (h : sp_I M 105 0 = nI n) (a : Int32) : fX11_isSpark M a = some (if 0 ≤ a.toInt ∧ a.toInt < n then 1 else 0) := by
  unfold fX11_isSpark
  have := in_n hn _ h a
  split
  · rename_i hc
    unfold fX11_in at this ⊢
    simp only [hc, and_self, not_true, eq_iff_iff, iff_false] at this
    split <;> simp_all
  · rename_i hc
    congr 1
    rw [this]; exact hc
theorem is_p {n : Nat} (hn : n < 100) (h : sp_I M 105 1 = nI n) (a : Int32) : fX11_isPerson M a = some (if 0 ≤ a.toInt ∧ a.toInt < n then 1 else 0) := by
  unfold fX11_isPerson
  have := in_n hn _ h a
  split
  · rename_i hc
    unfold fX11_in at this ⊢
    simp only [hc, and_self, not_true, eq_iff_iff, iff_false] at this
    split <;> simp_all
  · rename_i hc
    congr 1
    rw [this]; exact hc
end RoomFacts
/-- where a number of the row stands in a room: which array, which place -/
def fa (i : Nat) : Nat := if i < 5 then 0 else if i < 9 then 10 else if i < 15 then 2 else if i < 21 then 3 else if i < 26 then 5 else if i < 51 then 1 else if i < 57 then 4 else if i < 62 then 6 else if i < 67 then 7 else if i % 2 = 1 then 8 else 9
def fj (i : Nat) : Nat := if i < 5 then (if i = 0 then 4 else if i = 1 then 8 else if i = 2 then 11 else if i = 3 then 14 else 15) else if i < 9 then i - 5 else if i < 15 then i - 9 else if i < 21 then i - 15 else if i < 26 then i - 21 else if i < 51 then i - 26 else if i < 57 then i - 51 else if i < 62 then i - 57 else if i < 67 then i - 62 else (i - 67) / 2
theorem ro_at (M : sp_Mem) (o i : Nat) : rowOf M o i = sp_I M (o + fa i) (fj i) := by
  unfold rowOf fa fj
  split
  · split
    · rfl
    · split
      · rfl
      · split
        · rfl
        · split
          · rfl
          · rfl
  · split
    · rfl
    · split
      · rfl
      · split
        · rfl
        · split
          · rfl
          · split
            · rfl
            · split
              · rfl
              · split
                · rfl
                · split
                  · rfl
                  · split
                    · rfl
                    · rfl
theorem fx_s : ∀ i, i < 79 → ((fa i = 0 ∧ fj i = 4) ↔ i = 0) := by decide +kernel
theorem fx_p : ∀ i, i < 79 → ((fa i = 0 ∧ fj i = 8) ↔ i = 1) := by decide +kernel
theorem fx_a : ∀ i, i < 79 → ((fa i = 0 ∧ fj i = 11) ↔ i = 2) := by decide +kernel
theorem fx_l : ∀ i, i < 79 → ((fa i = 0 ∧ fj i = 14) ↔ i = 3) := by decide +kernel
theorem fx_f : ∀ i, i < 79 → ((fa i = 0 ∧ fj i = 15) ↔ i = 4) := by decide +kernel
theorem fx_term : ∀ j, j < 4 → ∀ i, i < 79 → ((fa i = 10 ∧ fj i = j) ↔ i = 5 + j) := by decide +kernel
theorem fx_cell : ∀ j, j < 6 → ∀ i, i < 79 → ((fa i = 2 ∧ fj i = j) ↔ i = 9 + j) := by decide +kernel
theorem fx_heat : ∀ j, j < 6 → ∀ i, i < 79 → ((fa i = 3 ∧ fj i = j) ↔ i = 15 + j) := by decide +kernel
theorem fx_stand : ∀ j, j < 5 → ∀ i, i < 79 → ((fa i = 5 ∧ fj i = j) ↔ i = 21 + j) := by decide +kernel
theorem fx_kind : ∀ j, j < 25 → ∀ i, i < 79 → ((fa i = 1 ∧ fj i = j) ↔ i = 26 + j) := by decide +kernel
theorem fx_name : ∀ j, j < 6 → ∀ i, i < 79 → ((fa i = 4 ∧ fj i = j) ↔ i = 51 + j) := by decide +kernel
theorem fx_reach : ∀ j, j < 5 → ∀ i, i < 79 → ((fa i = 6 ∧ fj i = j) ↔ i = 57 + j) := by decide +kernel
theorem fx_know : ∀ j, j < 5 → ∀ i, i < 79 → ((fa i = 7 ∧ fj i = j) ↔ i = 62 + j) := by decide +kernel
theorem fx_ask : ∀ j, j < 6 → ∀ i, i < 79 → ((fa i = 8 ∧ fj i = j) ↔ i = 67 + 2 * j) := by decide +kernel
theorem fx_rep : ∀ j, j < 6 → ∀ i, i < 79 → ((fa i = 9 ∧ fj i = j) ↔ i = 68 + 2 * j) := by decide +kernel
theorem bd_cell : ∀ j, j < 6 → lo (9 + j) = -1 ∧ hi (9 + j) = 24 := by decide +kernel
theorem bd_heat : ∀ j, j < 6 → lo (15 + j) = 0 ∧ hi (15 + j) = 9 := by decide +kernel
theorem bd_stand : ∀ j, j < 5 → lo (21 + j) = 0 ∧ hi (21 + j) = 24 := by decide +kernel
theorem bd_kind : ∀ j, j < 25 → lo (26 + j) = 0 ∧ hi (26 + j) = 3 := by decide +kernel
theorem bd_name : ∀ j, j < 6 → lo (51 + j) = 0 ∧ hi (51 + j) = 99 := by decide +kernel
theorem bd_reach : ∀ j, j < 5 → lo (57 + j) = 0 ∧ hi (57 + j) = 8 := by decide +kernel
theorem bd_know : ∀ j, j < 5 → lo (62 + j) = 0 ∧ hi (62 + j) = 63 := by decide +kernel
theorem fa_le : ∀ i, i < 79 → fa i ≤ 10 := by decide +kernel
def up (r : Nat → Int32) (q : Nat) (v : Int32) : Nat → Int32 := fun i => if i = q then v else r i
theorem up_s (r : Nat → Int32) (q : Nat) (v : Int32) : up r q v q = v := if_pos rfl
theorem up_n (r : Nat → Int32) {q i : Nat} (v : Int32) (h : i ≠ q) : up r q v i = r i := if_neg h
theorem I_up (M : sp_Mem) (o q : Nat) (v : Int32) : sp_I (sp_setI M o q v) o = up (sp_I M o) q v := by
  funext i
  unfold up
  simp [sp_I_setI]
theorem I_ne (M : sp_Mem) {o a : Nat} (q : Nat) (v : Int32) (h : a ≠ o) : sp_I (sp_setI M o q v) a = sp_I M a := by
  funext i
  simp [sp_I_setI, h]
/-- one place of the room and the same of the row -/
theorem Room_up {M : sp_Mem} {o : Nat} {r : Nat → Int32} (h : i_Room M o r) (a j q : Nat) (v : Int32) (hq : ∀ i, i < 79 → ((fa i = a ∧ fj i = j) ↔ i = q)) : i_Room (sp_setI M (o + a) j v) o (up r q v) := by
  intro i hi
  rw [ro_at, sp_I_setI]
  unfold up
  by_cases h1 : i = q
  · rw [if_pos h1, if_pos]
    have := (hq i hi).mpr h1
    exact ⟨by omega, this.2⟩
  · rw [if_neg h1, if_neg, ← ro_at]
    · exact h i hi
    · rintro ⟨h2, h3⟩
      exact h1 ((hq i hi).mp ⟨by omega, h3⟩)
theorem Room_ne {M : sp_Mem} {o x j : Nat} {v : Int32} {r : Nat → Int32} (h : i_Room M o r) (hx : x < o ∨ o + 10 < x) : i_Room (sp_setI M x j v) o r := by
  intro i hi
  rw [ro_at, sp_I_setI, if_neg, ← ro_at]
  · exact h i hi
  · rintro ⟨h2, _⟩
    have := fa_le i hi
    omega
theorem B_up {r : Nat → Int32} {q : Nat} {v : Int32} (h : i_B r) (h5 : 5 ≤ q) (h67 : q < 67 ∨ q % 2 = 0) (hv : wi v (lo q) (hi q)) : i_B (up r q v) := by
  obtain ⟨⟨a1, a2, a3, a4, a5⟩, b⟩ := h
  refine ⟨⟨?_, ?_, ?_, ?_, ?_⟩, fun i h1 h2 => ?_⟩
  · rw [up_n _ _ (by omega)]; exact a1
  · rw [up_n _ _ (by omega)]; exact a2
  · rw [up_n _ _ (by omega)]; exact a3
  · rw [up_n _ _ (by omega), up_n _ _ (by omega)]; exact a4
  · intro k hk
    rw [up_n _ _ (by omega)] at hk
    rw [up_n _ _ (by omega), up_n _ _ (by omega)]
    exact a5 k hk
  · by_cases hq : i = q
    · subst hq; rw [up_s]; exact hv
    · rw [up_n _ _ hq]; exact b i h1 h2
/-! getters -/
theorem op_41 {F k : Nat} {M : sp_Mem} (hI : Inv k M) : ∃ p, gL_41 F M = some p ∧ Inv (k + 1) p := by
  refine ⟨sp_setI M 103 0 0, ?_, Inv_thrown hI⟩
  have h := hI.2.2.2.2.1.2.1
  simp [gL_41, fX11_status, fX10_status, sp_do, sp_I_setI, h]
theorem op_11 {F k : Nat} {M : sp_Mem} (hI : Inv k M) : ∃ p, gL_11 F M = some p ∧ Inv (k + 1) p := by
  refine ⟨sp_setI M 103 0 0, ?_, Inv_thrown hI⟩
  have h := hI.2.2.2.2.1.2.2.1
  simp [gL_11, fX11_ash, fX10_ash, sp_do, sp_I_setI, h]
theorem op_14 {F k : Nat} {M : sp_Mem} (hI : Inv k M) : ∃ p, gL_14 F M = some p ∧ Inv (k + 1) p := by
  refine ⟨sp_setI M 103 0 0, ?_, Inv_thrown hI⟩
  have h := hI.2.2.2.2.1.2.2.2.1
  simp [gL_14, fX11_fault, fX10_fault, sp_do, sp_I_setI, h]
theorem op_15 {F k : Nat} {M : sp_Mem} (hI : Inv k M) : ∃ p, gL_15 F M = some p ∧ Inv (k + 1) p := by
  refine ⟨sp_setI M 103 0 0, ?_, Inv_thrown hI⟩
  have h := hI.2.2.2.2.1.2.2.2.2.1
  simp [gL_15, fX11_stopped, fX10_stopped, sp_do, sp_I_setI, h]
theorem op_6 {F k : Nat} {M : sp_Mem} (hI : Inv k M) (w1 : Int32) : ∃ p, gL_6 F M w1 = some p ∧ Inv (k + 1) p := by
  refine ⟨sp_setI M 103 0 0, ?_, Inv_thrown hI⟩
  have hR := hI.2.1.1
  unfold gL_6 fX10_floor fX11_floor
  simp only [w_cell, m_cell]
  by_cases h : 0 ≤ w1.toInt ∧ w1.toInt < 25
  · obtain ⟨j, hj, rfl⟩ := n_of (n := 25) h.1 h.2
    have e := rm_kind hR hj
    simp only [h, sp_do, sp_ix_nI (show j < 25 by omega) (by omega), ixa 26 j 5480 (26 + nI j) (by omega) (by omega) rfl, Option.bind_some, sp_I_setI]
    simp [e]
  · simp [h, sp_do]
theorem op_3 {F k : Nat} {M : sp_Mem} (hI : Inv k M) (w1 w2 : Int32) : ∃ p, gL_3 F M w1 w2 = some p ∧ Inv (k + 1) p := by
  refine ⟨sp_setI M 103 0 0, ?_, Inv_thrown hI⟩
  have hR := hI.2.1.1
  obtain ⟨n, hn, en⟩ := hI.2.1.2.1.1.2.1
  unfold gL_3 fX10_at fX11_at
  have e8 : sp_I M 6 8 = nI n := (rm_p hR).trans en
  have e1 : sp_I (sp_setI M 103 0 0) 105 1 = nI n := en
  simp only [sp_do, has_p (show n < 100 by omega) e8, is_p (show n < 100 by omega) e1]
  by_cases h : 0 ≤ w1.toInt ∧ w1.toInt < n
  · obtain ⟨j, hj, rfl⟩ := n_of h.1 h.2
    have i1 := rm_stand hR (show j < 5 by omega)
    have i2 := rm_reach hR (show j < 5 by omega)
    have i3 := rm_know hR (show j < 5 by omega)
    simp only [h, sp_ix_nI (show j < 5 by omega) (by omega), ixa 21 j 5480 (21 + nI j) (by omega) (by omega) rfl, ixa 57 j 5480 (57 + nI j) (by omega) (by omega) rfl, ixa 62 j 5480 (62 + nI j) (by omega) (by omega) rfl, Option.bind_some, sp_I_setI]
    by_cases a0 : w2 = 0
    · simp [a0, i1]
    · by_cases a1 : w2 = 1
      · simp [a1, i2]
      · by_cases a2 : w2 = 2
        · simp [a2, i3]
        · simp [a0, a1, a2]
  · simp [h]
