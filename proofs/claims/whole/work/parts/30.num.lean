/-! ===== numbers ===== -/
theorem n_lt {a b : Int32} : a < b ↔ a.toInt < b.toInt := Int32.lt_iff_toInt_lt
theorem n_le {a b : Int32} : a ≤ b ↔ a.toInt ≤ b.toInt := Int32.le_iff_toInt_le
theorem n_eq {a b : Int32} : a = b ↔ a.toInt = b.toInt := Int32.toInt_inj.symm
theorem l_lt {a b : Int64} : a < b ↔ a.toInt < b.toInt := Int64.lt_iff_toInt_lt
theorem l_le {a b : Int64} : a ≤ b ↔ a.toInt ≤ b.toInt := Int64.le_iff_toInt_le
theorem l_eq {a b : Int64} : a = b ↔ a.toInt = b.toInt := Int64.toInt_inj.symm
theorem n_l (a : Int32) : (Int32.toInt64 a).toInt = a.toInt := Int32.toInt_toInt64 a
theorem n_range (a : Int32) : -2147483648 ≤ a.toInt ∧ a.toInt < 2147483648 := ⟨Int32.le_toInt a, Int32.toInt_lt a⟩
theorem bm32 {x : Int} (h1 : -2147483648 ≤ x) (h2 : x < 2147483648) : x.bmod (2 ^ 32) = x := Int.bmod_eq_of_le (by omega) (by omega)
theorem bm64 {x : Int} (h1 : -9223372036854775808 ≤ x) (h2 : x < 9223372036854775808) : x.bmod (2 ^ 64) = x := Int.bmod_eq_of_le (by omega) (by omega)
theorem t_add {a b : Int32} (h1 : -2147483648 ≤ a.toInt + b.toInt) (h2 : a.toInt + b.toInt < 2147483648) : (a + b).toInt = a.toInt + b.toInt := by rw [Int32.toInt_add, bm32 h1 h2]
theorem t_sub {a b : Int32} (h1 : -2147483648 ≤ a.toInt - b.toInt) (h2 : a.toInt - b.toInt < 2147483648) : (a - b).toInt = a.toInt - b.toInt := by rw [Int32.toInt_sub, bm32 h1 h2]
theorem t_mul {a b : Int32} (h1 : -2147483648 ≤ a.toInt * b.toInt) (h2 : a.toInt * b.toInt < 2147483648) : (a * b).toInt = a.toInt * b.toInt := by rw [Int32.toInt_mul, bm32 h1 h2]
theorem t_neg {a : Int32} (h1 : -2147483648 < a.toInt) : (-a).toInt = -a.toInt := by
  have := Int32.toInt_lt a
  rw [Int32.toInt_neg, bm32 (by omega) (by omega)]
theorem t_div {a b : Int32} (h : 0 < b.toInt) : (a / b).toInt = a.toInt.tdiv b.toInt := Int32.toInt_div_of_ne_right a b (fun q => by rw [q] at h; exact absurd h (by decide))
theorem l_add {a b : Int64} (h1 : -9223372036854775808 ≤ a.toInt + b.toInt) (h2 : a.toInt + b.toInt < 9223372036854775808) : (a + b).toInt = a.toInt + b.toInt := by rw [Int64.toInt_add, bm64 h1 h2]
theorem l_sub {a b : Int64} (h1 : -9223372036854775808 ≤ a.toInt - b.toInt) (h2 : a.toInt - b.toInt < 9223372036854775808) : (a - b).toInt = a.toInt - b.toInt := by rw [Int64.toInt_sub, bm64 h1 h2]
theorem l_mul {a b : Int64} (h1 : -9223372036854775808 ≤ a.toInt * b.toInt) (h2 : a.toInt * b.toInt < 9223372036854775808) : (a * b).toInt = a.toInt * b.toInt := by rw [Int64.toInt_mul, bm64 h1 h2]
theorem l_div {a b : Int64} (h : 0 < b.toInt) : (a / b).toInt = a.toInt.tdiv b.toInt := Int64.toInt_div_of_ne_right a b (fun q => by rw [q] at h; exact absurd h (by decide))
theorem l_to {a : Int64} (h1 : -2147483648 ≤ a.toInt) (h2 : a.toInt < 2147483648) : (Int64.toInt32 a).toInt = a.toInt := by rw [Int64.toInt_toInt32, bm32 h1 h2]
theorem sp_ix_nI {n j : Nat} (h : j < n) (hn : n < 2147483648) : sp_ix n (nI j) = some j := by
  unfold sp_ix
  rw [if_neg, nI_clamp (by omega)]
  rw [nI_clamp (by omega)]
  exact fun q => q.elim (nI_pos (by omega)) (fun q => by omega)
theorem ixa (k j n : Nat) (x : Int32) (h : k + j < n) (hn : n < 2147483648) (hx : x = nI k + nI j) : sp_ix n x = some (k + j) := by
  rw [hx, nI_add]; exact sp_ix_nI h hn
theorem n_of {a : Int32} {n : Nat} (h1 : 0 ≤ a.toInt) (h2 : a.toInt < n) : ∃ j : Nat, j < n ∧ a = nI j := by
  have hr := n_range a
  refine ⟨a.toInt.toNat, by omega, ?_⟩
  rw [n_eq, nI_toInt (by omega)]
  omega
theorem w_in (a lo hi : Int32) : (fX10_isWithin a lo hi = 0) = ¬ (lo.toInt ≤ a.toInt ∧ a.toInt ≤ hi.toInt) := by
  unfold fX10_isWithin
  simp only [n_lt]
  apply propext
  split
  · simp; omega
  · split
    · simp; omega
    · simp; omega
theorem w_cell (a : Int32) : (fX10_isCell a = 0) = ¬ (0 ≤ a.toInt ∧ a.toInt < 25) := by
  unfold fX10_isCell
  simp only [n_lt, n_le, show (0 : Int32).toInt = 0 from rfl, show (25 : Int32).toInt = 25 from rfl]
  apply propext
  split
  · simp; omega
  · split
    · simp; omega
    · simp; omega
theorem m_in (a lo hi : Int64) : (fX11_in a lo hi = 0) = ¬ (lo.toInt ≤ a.toInt ∧ a.toInt ≤ hi.toInt) := by
  unfold fX11_in
  simp only [l_lt]
  apply propext
  split
  · simp; omega
  · split
    · simp; omega
    · simp; omega
theorem m_cell (a : Int32) : (fX11_isCell a = 0) = ¬ (0 ≤ a.toInt ∧ a.toInt < 25) := by
  unfold fX11_isCell
  rw [m_in, n_l, show (0 : Int64).toInt = 0 from rfl, show (24 : Int64).toInt = 24 from rfl]
  apply propext
  constructor <;> intro h <;> omega
/-- a room of the class as the reference's row has it -/
def rowOf (M : sp_Mem) (o i : Nat) : Int32 :=
  if i < 5 then (if i = 0 then sp_I M o 4 else if i = 1 then sp_I M o 8 else if i = 2 then sp_I M o 11 else if i = 3 then sp_I M o 14 else sp_I M o 15)
  else if i < 9 then sp_I M (o + 10) (i - 5) else if i < 15 then sp_I M (o + 2) (i - 9) else if i < 21 then sp_I M (o + 3) (i - 15) else if i < 26 then sp_I M (o + 5) (i - 21)
  else if i < 51 then sp_I M (o + 1) (i - 26) else if i < 57 then sp_I M (o + 4) (i - 51) else if i < 62 then sp_I M (o + 6) (i - 57) else if i < 67 then sp_I M (o + 7) (i - 62)
  else if i % 2 = 1 then sp_I M (o + 8) ((i - 67) / 2) else sp_I M (o + 9) ((i - 67) / 2)
section RowOf
variable (M : sp_Mem) (o : Nat)
theorem ro_0 : rowOf M o 0 = sp_I M o 4 := rfl
theorem ro_1 : rowOf M o 1 = sp_I M o 8 := rfl
theorem ro_2 : rowOf M o 2 = sp_I M o 11 := rfl
theorem ro_3 : rowOf M o 3 = sp_I M o 14 := rfl
theorem ro_4 : rowOf M o 4 = sp_I M o 15 := rfl
theorem ro_term {k : Nat} (h : k < 4) : rowOf M o (5 + k) = sp_I M (o + 10) k := by
  unfold rowOf; rw [if_neg (by omega), if_pos (by omega)]; congr 1; omega
theorem ro_cell {k : Nat} (h : k < 6) : rowOf M o (9 + k) = sp_I M (o + 2) k := by
  unfold rowOf; rw [if_neg (by omega), if_neg (by omega), if_pos (by omega)]; congr 1; omega
theorem ro_heat {k : Nat} (h : k < 6) : rowOf M o (15 + k) = sp_I M (o + 3) k := by
  unfold rowOf; rw [if_neg (by omega), if_neg (by omega), if_neg (by omega), if_pos (by omega)]; congr 1; omega
theorem ro_stand {k : Nat} (h : k < 5) : rowOf M o (21 + k) = sp_I M (o + 5) k := by
  unfold rowOf; rw [if_neg (by omega), if_neg (by omega), if_neg (by omega), if_neg (by omega), if_pos (by omega)]; congr 1; omega
theorem ro_kind {k : Nat} (h : k < 25) : rowOf M o (26 + k) = sp_I M (o + 1) k := by
  unfold rowOf; rw [if_neg (by omega), if_neg (by omega), if_neg (by omega), if_neg (by omega), if_neg (by omega), if_pos (by omega)]; congr 1; omega
theorem ro_name {k : Nat} (h : k < 6) : rowOf M o (51 + k) = sp_I M (o + 4) k := by
  unfold rowOf; rw [if_neg (by omega), if_neg (by omega), if_neg (by omega), if_neg (by omega), if_neg (by omega), if_neg (by omega), if_pos (by omega)]; congr 1; omega
theorem ro_reach {k : Nat} (h : k < 5) : rowOf M o (57 + k) = sp_I M (o + 6) k := by
  unfold rowOf; rw [if_neg (by omega), if_neg (by omega), if_neg (by omega), if_neg (by omega), if_neg (by omega), if_neg (by omega), if_neg (by omega), if_pos (by omega)]; congr 1; omega
theorem ro_know {k : Nat} (h : k < 5) : rowOf M o (62 + k) = sp_I M (o + 7) k := by
  unfold rowOf; rw [if_neg (by omega), if_neg (by omega), if_neg (by omega), if_neg (by omega), if_neg (by omega), if_neg (by omega), if_neg (by omega), if_neg (by omega), if_pos (by omega)]; congr 1; omega
theorem ro_ask {k : Nat} : rowOf M o (67 + 2 * k) = sp_I M (o + 8) k := by
  unfold rowOf; rw [if_neg (by omega), if_neg (by omega), if_neg (by omega), if_neg (by omega), if_neg (by omega), if_neg (by omega), if_neg (by omega), if_neg (by omega), if_neg (by omega), if_pos (by omega)]; congr 1; omega
theorem ro_rep {k : Nat} : rowOf M o (68 + 2 * k) = sp_I M (o + 9) k := by
  unfold rowOf; rw [if_neg (by omega), if_neg (by omega), if_neg (by omega), if_neg (by omega), if_neg (by omega), if_neg (by omega), if_neg (by omega), if_neg (by omega), if_neg (by omega), if_neg (by omega)]; congr 1; omega
end RowOf
