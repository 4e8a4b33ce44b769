/-! ===== small sets as bits ===== -/
theorem bit_e : ∀ b, b < 64 → ∀ s, s < 6 → (nI b >>> (nI s &&& 31)) &&& 1 = nI (b / 2 ^ s % 2) := by decide +kernel
theorem or_e : ∀ i, i < 6 → ∀ a, a < 2 ^ i → ∀ b, b < 2 → nI a ||| (nI b <<< (nI i &&& 31)) = nI (a + b * 2 ^ i) := by decide +kernel
theorem or_0 : ∀ a, a < 64 → nI a ||| 0 = nI a := by decide +kernel
theorem and_e : ∀ a, a < 64 → ∀ b, b < 64 → nI a &&& nI b = nI (a &&& b) := by decide +kernel
theorem andn_e : ∀ a, a < 64 → ∀ b, b < 64 → nI a &&& (nI b ^^^ (-1)) = nI (a &&& (63 - b)) := by decide +kernel
theorem sh_e : ∀ n, n < 7 → (1 : Int32) <<< (nI n &&& 31) = nI (2 ^ n) := by decide +kernel
theorem p2_6 {n : Nat} (h : n ≤ 6) : 2 ^ n ≤ 64 := Nat.pow_le_pow_right (n := 2) (by omega) h
def popi (b : Nat) : Nat → Nat
  | 0 => 0
  | i + 1 => popi b i + b / 2 ^ i % 2
def pop (b : Nat) : Nat := popi b 6
theorem pop_c : ∀ b, b < 64 → fJ6_bitCount_0f7a4 (nI b) = nI (pop b) := by decide +kernel
theorem pop_le : ∀ b, b < 64 → pop b ≤ 6 := by decide +kernel
theorem popi_le (b : Nat) : ∀ i, popi b i ≤ i
  | 0 => Nat.le_refl 0
  | i + 1 => by
    have := popi_le b i
    have : b / 2 ^ i % 2 < 2 := Nat.mod_lt _ (by omega)
    show popi b i + b / 2 ^ i % 2 ≤ i + 1
    omega
theorem ones_l {F b : Nat} {kx : Int32 → Option Int32} (hb : b < 64) : ∀ (m i k : Nat), i + m = 6 → m < k → fX11_ones_l4 F kx k (nI b) (nI (popi b i)) (nI i) = kx (nI (pop b)) := by
  intro m
  induction m with
  | zero =>
    intro i k hi hk
    obtain ⟨k, rfl⟩ : ∃ m, k = m + 1 := ⟨k - 1, by omega⟩
    unfold fX11_ones_l4
    rw [if_pos (show (6 : Int32) ≤ nI i from nI_le (a := 6) (by omega) (by omega)), show i = 6 by omega]
    rfl
  | succ m ih =>
    intro i k hi hk
    obtain ⟨k, rfl⟩ : ∃ m, k = m + 1 := ⟨k - 1, by omega⟩
    unfold fX11_ones_l4
    simp only [sp_do]
    rw [if_neg (show ¬ (6 : Int32) ≤ nI i from nI_ge (b := 6) (by omega) (by omega)), bit_e b hb i (by omega), nI_add, nI_1]
    exact ih (i + 1) k (by omega) (by omega)
theorem ones_e {F b : Nat} (hF : 1000 ≤ F) (hb : b < 64) : fX11_ones F (nI b) = some (nI (pop b)) := ones_l (kx := fun b4 => some b4) hb 6 0 F (by omega) (by omega)
/-! who knows a spark -/
def knb (r : Nat → Int32) (i : Nat) : Nat := (r (62 + i)).toNatClampNeg
def kw (r : Nat → Int32) (s : Nat) : Nat → Nat
  | 0 => 0
  | i + 1 => kw r s i + (knb r i / 2 ^ s % 2) * 2 ^ i
theorem kw_lt (r : Nat → Int32) (s : Nat) : ∀ i, kw r s i < 2 ^ i
  | 0 => by show 0 < 1; omega
  | i + 1 => by
    have h1 := kw_lt r s i
    have h2 : knb r i / 2 ^ s % 2 < 2 := Nat.mod_lt _ (by omega)
    show kw r s i + (knb r i / 2 ^ s % 2) * 2 ^ i < 2 ^ (i + 1)
    rw [Nat.pow_succ]
    have : knb r i / 2 ^ s % 2 = 0 ∨ knb r i / 2 ^ s % 2 = 1 := by omega
    rcases this with h | h <;> rw [h] <;> omega
section Know
variable {F o s p : Nat} {M : sp_Mem} {r : Nat → Int32}
theorem knb_e {T : Int} (hB : i_BT T r) {i : Nat} (hi : i < 5) : r (62 + i) = nI (knb r i) ∧ knb r i < 64 := by
  have := bt_at hB (i := 62 + i) (by omega) (by omega)
  rw [(bd_know i hi).1, (bd_know i hi).2] at this
  obtain ⟨j, hj, e⟩ := n_of (n := 64) this.1 (by have := this.2; omega)
  unfold knb
  rw [e, nI_clamp (by omega)]
  exact ⟨rfl, hj⟩
theorem kn_c {T : Int} {kx : Int32 → Option Int32} (hR : i_Room M o r) (hB : i_BT T r) (hp : r 1 = nI p) (hp5 : p ≤ 5) (hs : s < 6) : ∀ (m i k : Nat), i + m = p → m < k → fX5_knowers_l4 F M o kx k (nI s) (nI (kw r s i)) (nI i) = kx (nI (kw r s p)) := by
  intro m
  induction m with
  | zero =>
    intro i k hi hk
    obtain ⟨k, rfl⟩ : ∃ m, k = m + 1 := ⟨k - 1, by omega⟩
    unfold fX5_knowers_l4
    rw [rm_p hR, hp, if_pos (nI_le (by omega) (by omega)), show i = p by omega]
  | succ m ih =>
    intro i k hi hk
    obtain ⟨k, rfl⟩ : ∃ m, k = m + 1 := ⟨k - 1, by omega⟩
    obtain ⟨e1, e2⟩ := knb_e hB (show i < 5 by omega)
    unfold fX5_knowers_l4
    simp only [sp_do]
    rw [rm_p hR, hp, if_neg (nI_ge (by omega) (by omega)), sp_ix_nI (show i < 5 by omega) (by omega), Option.bind_some, rm_know hR (show i < 5 by omega), e1, bit_e _ e2 s hs, or_e i (by omega) _ (kw_lt r s i) _ (Nat.mod_lt _ (by omega)), nI_1]
    exact ih (i + 1) k (by omega) (by omega)
theorem knowers_c {T : Int} (hF : 1000 ≤ F) (hR : i_Room M o r) (hB : i_BT T r) (hp : r 1 = nI p) (hp5 : p ≤ 5) (hs : s < 6) : fX5_knowers F M o (nI s) = some (nI (kw r s p)) := kn_c (kx := fun b5 => some b5) hR hB hp hp5 hs p 0 F (by omega) (by omega)
theorem kn_r {T : Int} {kx : Int32 → Option Int32} (hr : ∀ i, sp_I M 105 i = r i) (hB : i_BT T r) (hp : r 1 = nI p) (hp5 : p ≤ 5) (hs : s < 6) : ∀ (m i k : Nat), i + m = p → m < k → fX11_knownTo_l4 F M kx k (nI s) (nI (kw r s i)) (nI i) = kx (nI (kw r s p)) := by
  intro m
  induction m with
  | zero =>
    intro i k hi hk
    obtain ⟨k, rfl⟩ : ∃ m, k = m + 1 := ⟨k - 1, by omega⟩
    unfold fX11_knownTo_l4
    rw [hr, hp, if_pos (nI_le (by omega) (by omega)), show i = p by omega]
  | succ m ih =>
    intro i k hi hk
    obtain ⟨k, rfl⟩ : ∃ m, k = m + 1 := ⟨k - 1, by omega⟩
    obtain ⟨e1, e2⟩ := knb_e hB (show i < 5 by omega)
    have hlt := kw_lt r s i
    have hp6 : 2 ^ i ≤ 64 := p2_6 (by omega)
    have hk1 : kw r s (i + 1) = kw r s i + (knb r i / 2 ^ s % 2) * 2 ^ i := rfl
    unfold fX11_knownTo_l4 fX11_is
    simp only [sp_do]
    rw [hr, hp, if_neg (nI_ge (by omega) (by omega)), show (62 : Int32) + nI i = nI (62 + i) from nI_add 62 i, sp_ix_nI (show 62 + i < 5480 by omega) (by omega), Option.bind_some, hr, e1, bit_e _ e2 s hs]
    have h2 : knb r i / 2 ^ s % 2 = 0 ∨ knb r i / 2 ^ s % 2 = 1 := by omega
    rcases h2 with h | h
    · rw [h, if_neg (show ¬ nI 0 = 1 by decide), if_pos rfl, or_0 _ (by omega), nI_1]
      have := ih (i + 1) k (by omega) (by omega)
      rw [hk1, h, Nat.zero_mul, Nat.add_zero] at this
      exact this
    · rw [h, if_pos (show nI 1 = 1 from rfl), if_neg (by decide), show (1 : Int32) = nI 1 from rfl, or_e i (by omega) _ hlt 1 (by omega), show nI i + nI 1 = nI (i + 1) from nI_add i 1]
      have := ih (i + 1) k (by omega) (by omega)
      rw [hk1, h] at this
      exact this
theorem knownTo_r {T : Int} (hF : 1000 ≤ F) (hr : ∀ i, sp_I M 105 i = r i) (hB : i_BT T r) (hp : r 1 = nI p) (hp5 : p ≤ 5) (hs : s < 6) : fX11_knownTo F M (nI s) = some (nI (kw r s p)) := kn_r (kx := fun b6 => some b6) hr hB hp hp5 hs p 0 F (by omega) (by omega)
end Know
/-! how many are loose -/
def lsn (r : Nat → Int32) : Nat → Nat
  | 0 => 0
  | i + 1 => lsn r i + (if r (9 + i) = -1 then 0 else 1)
def lsb (r : Nat → Int32) : Nat → Nat
  | 0 => 0
  | i + 1 => lsb r i + (if r (9 + i) = -1 then 0 else 1) * 2 ^ i
theorem lsb_lt (r : Nat → Int32) : ∀ i, lsb r i < 2 ^ i
  | 0 => by show 0 < 1; omega
  | i + 1 => by
    have h1 := lsb_lt r i
    show lsb r i + (if r (9 + i) = -1 then 0 else 1) * 2 ^ i < 2 ^ (i + 1)
    rw [Nat.pow_succ]
    split <;> omega
theorem popi_add {b c i : Nat} (hb : b < 2 ^ i) : ∀ j, j ≤ i → popi (b + c * 2 ^ i) j = popi b j
  | 0, _ => rfl
  | j + 1, hj => by
    show popi (b + c * 2 ^ i) j + (b + c * 2 ^ i) / 2 ^ j % 2 = popi b j + b / 2 ^ j % 2
    rw [popi_add hb j (by omega)]
    congr 1
    obtain ⟨d, rfl⟩ : ∃ d, i = j + 1 + d := ⟨i - (j + 1), by omega⟩
    have : c * 2 ^ (j + 1 + d) = 2 ^ j * (2 * (c * 2 ^ d)) := by
      rw [Nat.pow_add, Nat.pow_succ]
      rw [Nat.mul_comm (2 ^ j) 2, Nat.mul_assoc 2, Nat.mul_left_comm c 2, Nat.mul_left_comm c (2 ^ j), Nat.mul_left_comm 2 (2 ^ j)]
    rw [this, Nat.add_mul_div_left _ _ (Nat.two_pow_pos j), Nat.add_mul_mod_self_left]
theorem popi_hi {b i : Nat} (hb : b < 2 ^ i) : ∀ j, i ≤ j → popi b j = popi b i := by
  intro j hj
  obtain ⟨d, rfl⟩ : ∃ d, j = i + d := ⟨j - i, by omega⟩
  clear hj
  induction d with
  | zero => rfl
  | succ d ih =>
    show popi b (i + d) + b / 2 ^ (i + d) % 2 = popi b i
    rw [ih, Nat.div_eq_of_lt (Nat.lt_of_lt_of_le hb (Nat.pow_le_pow_right (by omega) (by omega)))]
    rfl
theorem pop_lsb (r : Nat → Int32) : ∀ i, popi (lsb r i) i = lsn r i
  | 0 => rfl
  | i + 1 => by
    have h1 := lsb_lt r i
    show popi (lsb r i + (if r (9 + i) = -1 then 0 else 1) * 2 ^ i) i + (lsb r i + (if r (9 + i) = -1 then 0 else 1) * 2 ^ i) / 2 ^ i % 2 = lsn r i + (if r (9 + i) = -1 then 0 else 1)
    rw [popi_add h1 i (Nat.le_refl i), pop_lsb r i, Nat.add_mul_div_right _ _ (Nat.two_pow_pos i), Nat.div_eq_of_lt h1]
    split <;> rfl
theorem lsn_le (r : Nat → Int32) : ∀ i, lsn r i ≤ i
  | 0 => Nat.le_refl 0
  | i + 1 => by
    have := lsn_le r i
    show lsn r i + (if r (9 + i) = -1 then 0 else 1) ≤ i + 1
    split <;> omega
section Loose
variable {F o n : Nat} {M : sp_Mem} {r : Nat → Int32}
theorem ls_c {kx : Int32 → Option Int32} (hR : i_Room M o r) (hn : r 0 = nI n) (h6 : n ≤ 6) : ∀ (m i k : Nat), i + m = n → m < k → fX5_looseSparks_l4 F M o kx k (nI (lsn r i)) (nI i) = kx (nI (lsn r n)) := by
  intro m
  induction m with
  | zero =>
    intro i k hi hk
    obtain ⟨k, rfl⟩ : ∃ m, k = m + 1 := ⟨k - 1, by omega⟩
    unfold fX5_looseSparks_l4
    rw [rm_s hR, hn, if_pos (nI_le (by omega) (by omega)), show i = n by omega]
  | succ m ih =>
    intro i k hi hk
    obtain ⟨k, rfl⟩ : ∃ m, k = m + 1 := ⟨k - 1, by omega⟩
    have hl : lsn r (i + 1) = lsn r i + (if r (9 + i) = -1 then 0 else 1) := rfl
    unfold fX5_looseSparks_l4
    rw [rm_s hR, hn, if_neg (nI_ge (by omega) (by omega)), sp_ix_nI (show i < 6 by omega) (by omega), Option.bind_some, rm_cell hR (show i < 6 by omega), nI_1, nI_1]
    have := ih (i + 1) k (by omega) (by omega)
    rw [hl] at this
    by_cases h : r (9 + i) = -1
    · rw [if_pos h] at this ⊢; exact this
    · rw [if_neg h] at this ⊢; exact this
theorem loose_c (hF : 1000 ≤ F) (hR : i_Room M o r) (hn : r 0 = nI n) (h6 : n ≤ 6) : fX5_looseSparks F M o = some (nI (lsn r n)) := ls_c (kx := fun b5 => some b5) hR hn h6 n 0 F (by omega) (by omega)
theorem ls_r {kx : Int32 → Option Int32} (hr : ∀ i, sp_I M 105 i = r i) (hn : r 0 = nI n) (h6 : n ≤ 6) : ∀ (m i k : Nat), i + m = n → m < k → fX11_looseOnes_l4 F M kx k (nI (lsb r i)) (nI i) = kx (nI (lsb r n)) := by
  intro m
  induction m with
  | zero =>
    intro i k hi hk
    obtain ⟨k, rfl⟩ : ∃ m, k = m + 1 := ⟨k - 1, by omega⟩
    unfold fX11_looseOnes_l4
    rw [hr, hn, if_pos (nI_le (by omega) (by omega)), show i = n by omega]
  | succ m ih =>
    intro i k hi hk
    obtain ⟨k, rfl⟩ : ∃ m, k = m + 1 := ⟨k - 1, by omega⟩
    have hl : lsb r (i + 1) = lsb r i + (if r (9 + i) = -1 then 0 else 1) * 2 ^ i := rfl
    have hlt := lsb_lt r i
    have hp6 : 2 ^ i ≤ 64 := p2_6 (by omega)
    unfold fX11_looseOnes_l4 fX11_isLoose
    simp only [sp_do]
    rw [hr, hn, if_neg (nI_ge (by omega) (by omega)), show (9 : Int32) + nI i = nI (9 + i) from nI_add 9 i, sp_ix_nI (show 9 + i < 5480 by omega) (by omega), Option.bind_some, Option.bind_some, hr]
    have := ih (i + 1) k (by omega) (by omega)
    rw [hl] at this
    by_cases h : r (9 + i) = -1
    · rw [if_pos h, Nat.zero_mul, Nat.add_zero] at this
      rw [if_pos h, if_pos rfl, or_0 _ (by omega), nI_1]
      exact this
    · rw [if_neg h] at this
      rw [if_neg h, if_neg (by decide), show (1 : Int32) = nI 1 from rfl, or_e i (by omega) _ hlt 1 (by omega), show nI i + nI 1 = nI (i + 1) from nI_add i 1]
      exact this
theorem loose_r (hF : 1000 ≤ F) (hr : ∀ i, sp_I M 105 i = r i) (hn : r 0 = nI n) (h6 : n ≤ 6) : fX11_looseOnes F M = some (nI (lsb r n)) := ls_r (kx := fun b6 => some b6) hr hn h6 n 0 F (by omega) (by omega)
theorem loose_o (hF : 1000 ≤ F) (h6 : n ≤ 6) : fX11_ones F (nI (lsb r n)) = some (nI (lsn r n)) := by
  have h1 := lsb_lt r n
  have h2 := p2_6 h6
  rw [ones_e hF (by omega)]
  unfold pop
  rw [popi_hi h1 6 h6, pop_lsb]
end Loose
