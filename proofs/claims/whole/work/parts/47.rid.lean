/-! ===== riddles ===== -/
theorem max0 (x : Int32) : sp_max 0 x = if x ≤ 0 then 0 else x := by
  unfold sp_max
  by_cases h : x ≤ 0
  · rw [if_pos h, if_neg]; rw [n_lt]; rw [n_le] at h; omega
  · rw [if_neg h, if_pos]; rw [n_lt]; rw [n_le] at h; omega
def lsI (r : Nat → Int32) (k p : Nat) : Nat → Int32
  | 0 => 0
  | i + 1 => lsI r k p i + (if nI k - nI (pop (kw r i p)) ≤ 0 then 0 else nI k - nI (pop (kw r i p)))
section Lessons
variable {F o n p q : Nat} {M : sp_Mem} {r : Nat → Int32} {T : Int}
theorem kw64 (r : Nat → Int32) (s : Nat) {p : Nat} (hp5 : p ≤ 5) : kw r s p < 64 := by
  have h1 := kw_lt r s p
  have h2 := p2_6 (show p ≤ 6 by omega)
  omega
theorem le_c {kx : Int32 → Option Int32} (hF : 1000 ≤ F) (hR : i_Room M o r) (hB : i_BT T r) (hn : r 0 = nI n) (h6 : n ≤ 6) (hp : r 1 = nI p) (hp5 : p ≤ 5) : ∀ (m i k : Nat), i + m = n → m < k → fX4_lessonsNeeded_l4 F M o kx k (nI q) (lsI r q p i) (nI i) = kx (lsI r q p n) := by
  intro m
  induction m with
  | zero =>
    intro i k hi hk
    obtain ⟨k, rfl⟩ : ∃ m, k = m + 1 := ⟨k - 1, by omega⟩
    unfold fX4_lessonsNeeded_l4
    rw [rm_s hR, hn, if_pos (nI_le (by omega) (by omega)), show i = n by omega]
  | succ m ih =>
    intro i k hi hk
    obtain ⟨k, rfl⟩ : ∃ m, k = m + 1 := ⟨k - 1, by omega⟩
    unfold fX4_lessonsNeeded_l4
    simp only [sp_do]
    rw [rm_s hR, hn, if_neg (nI_ge (by omega) (by omega)), knowers_c hF hR hB hp hp5 (by omega), Option.bind_some, pop_c _ (kw64 r i hp5), max0, nI_1]
    exact ih (i + 1) k (by omega) (by omega)
theorem le_r {kx : Int32 → sp_Mem → Option (Int32 × sp_Mem)} (hF : 1000 ≤ F) (hr : ∀ i, sp_I M 105 i = r i) (hB : i_BT T r) (hn : r 0 = nI n) (h6 : n ≤ 6) (hp : r 1 = nI p) (hp5 : p ≤ 5) : ∀ (m i k : Nat), i + m = n → m < k → fX11_lessons_l33 F kx k (nI q) (lsI r q p i) (nI i) M = kx (lsI r q p n) M := by
  intro m
  induction m with
  | zero =>
    intro i k hi hk
    obtain ⟨k, rfl⟩ : ∃ m, k = m + 1 := ⟨k - 1, by omega⟩
    unfold fX11_lessons_l33
    rw [hr, hn, if_pos (nI_le (by omega) (by omega)), show i = n by omega]
  | succ m ih =>
    intro i k hi hk
    obtain ⟨k, rfl⟩ : ∃ m, k = m + 1 := ⟨k - 1, by omega⟩
    unfold fX11_lessons_l33
    simp only [sp_do]
    rw [hr, hn, if_neg (nI_ge (by omega) (by omega)), knownTo_r hF hr hB hp hp5 (by omega), Option.bind_some, ones_e hF (kw64 r i hp5), Option.bind_some, nI_1]
    exact ih (i + 1) k (by omega) (by omega)
end Lessons
/-- lessons -/
theorem op_32 {F k : Nat} {M : sp_Mem} (hF : 1000 ≤ F) (hI : Inv k M) (w1 : Int32) : ∃ p, gL_32 F M w1 = some p ∧ Inv (k + 1) p := by
  obtain ⟨lf, n, hC, hX⟩ := Inv_X hF hI
  have h6 := hC.2.2.2.2.2.2.2
  have hR := hC.2.2.2.1
  have hn := hC.2.2.2.2.2.2.1
  have hB := hC.2.2.2.2.1.2
  have X0 := RX_00 hX
  obtain ⟨p, hp5, hp⟩ := bt_p hB
  suffices hx : ∃ v, fX10_lessons F M w1 = some v ∧ fX11_lessons F M w1 = some (v, sp_setI M 103 0 0) by
    obtain ⟨v, e1, e2⟩ := hx
    exact ⟨_, glue0 e1 e2, Inv_thrown hI⟩
  unfold fX10_lessons fX11_lessons
  simp only [sp_do, w_in, m_in, n_l, show (0 : Int32).toInt = 0 from rfl, show (0 : Int64).toInt = 0 from rfl, show (5 : Int64).toInt = 5 from rfl, (rm_p hR).trans hp, (RX_r X0 1).trans hp, nI_toInt (show p < 2 ^ 31 by omega)]
  by_cases h : 0 ≤ w1.toInt ∧ w1.toInt ≤ p
  · obtain ⟨q, hq, rfl⟩ := n_of (n := p + 1) h.1 (by omega)
    rw [if_neg (by simpa using h), if_neg (by rw [nI_toInt (by omega)]; omega), if_pos (nI_le (by omega) (by omega))]
    unfold fX4_lessonsNeeded
    have e1 := le_c (q := q) (kx := fun b5 => some b5) hF hR hB hn h6 hp hp5 n 0 F (by omega) (by omega)
    have e2 := le_r (q := q) (M := sp_setI M 103 0 0) (kx := fun b10 M9 => some (b10, M9)) hF (RX_r X0) hB hn h6 hp hp5 n 0 F (by omega) (by omega)
    have e1 : fX4_lessonsNeeded_l4 F M 6 (fun b5 => some b5) F (nI q) 0 0 = _ := e1
    have e2 : fX11_lessons_l33 F (fun b10 M9 => some (b10, M9)) F (nI q) 0 0 (sp_setI M 103 0 0) = _ := e2
    rw [e1, Option.bind_some, e2]
    exact ⟨_, rfl, rfl⟩
  · rw [if_pos h]
    refine ⟨_, rfl, ?_⟩
    by_cases h5 : 0 ≤ w1.toInt ∧ w1.toInt ≤ 5
    · rw [if_neg (by simpa using h5), if_neg]
      rw [n_le, nI_toInt (by omega)]; omega
    · rw [if_pos h5]
/-! which -/
def ask (r : Nat → Int32) (i : Nat) : Nat := (r (67 + 2 * i)).toNatClampNeg
def whC (r : Nat → Int32) (n : Nat) : Nat → Nat
  | 0 => 2 ^ n - 1
  | i + 1 => if r (68 + 2 * i) = 1 then whC r n i &&& knb r (ask r i) else whC r n i &&& (63 - knb r (ask r i))
def soN (r : Nat → Int32) (s : Nat) : Nat → Bool
  | 0 => true
  | i + 1 => soN r s i && decide (nI (knb r (ask r i) / 2 ^ s % 2) = r (68 + 2 * i))
def whS (r : Nat → Int32) (q : Nat) : Nat → Nat
  | 0 => 0
  | s + 1 => whS r q s + (if soN r s q then 1 else 0) * 2 ^ s
theorem land_e : ∀ a, a < 64 → ∀ b, b < 64 → ∀ s, s < 6 → (a &&& b) / 2 ^ s % 2 = (a / 2 ^ s % 2) * (b / 2 ^ s % 2) := by decide +kernel
theorem land_n : ∀ b, b < 64 → ∀ s, s < 6 → (63 - b) / 2 ^ s % 2 = 1 - b / 2 ^ s % 2 := by decide +kernel
theorem full_e : ∀ n, n < 7 → ∀ s, s < n → (2 ^ n - 1) / 2 ^ s % 2 = 1 := by decide +kernel
theorem b01 (x : Nat) : x % 2 = 0 ∨ x % 2 = 1 := by omega
section Which
variable {F o n p q s : Nat} {M : sp_Mem} {r : Nat → Int32} {T : Int}
theorem whC_lt (h6 : n ≤ 6) : ∀ i, whC r n i < 2 ^ n
  | 0 => by
    have := Nat.two_pow_pos n
    show 2 ^ n - 1 < 2 ^ n
    omega
  | i + 1 => by
    have h1 := whC_lt h6 i
    have h2 : ∀ b, whC r n i &&& b ≤ whC r n i := fun b => Nat.and_le_left
    show (if r (68 + 2 * i) = 1 then _ else _) < _
    split
    · exact Nat.lt_of_le_of_lt (h2 _) h1
    · exact Nat.lt_of_le_of_lt (h2 _) h1
/-- answers: who, and whether -/
theorem an_e (hB : i_BT T r) (hp : r 1 = nI p) (hp5 : p ≤ 5) (hq : r 2 = nI q) (hq6 : q ≤ 6) {i : Nat} (hiq : i < q) : r (67 + 2 * i) = nI (ask r i) ∧ ask r i < p ∧ (r (68 + 2 * i) = nI 0 ∨ r (68 + 2 * i) = nI 1) := by
  have h1 := hB.1.2.2.2.2 i (by rw [hq, nI_toInt (by omega)]; omega)
  have h2 := bt_at hB (i := 67 + 2 * i) (by omega) (by omega)
  have h3 := bt_at hB (i := 68 + 2 * i) (by omega) (by omega)
  have l1 : lo (67 + 2 * i) = 0 := by unfold lo; rw [if_neg (by omega)]
  have l2 : lo (68 + 2 * i) = 0 := by unfold lo; rw [if_neg (by omega)]
  have l3 : hi (68 + 2 * i) = 1 := by unfold hi; rw [if_neg (by omega), if_neg (by omega), if_neg (by omega), if_neg (by omega), if_neg (by omega), if_neg (by omega), if_neg (by omega), if_neg (by omega), if_neg (by omega), if_neg (by omega), if_pos (by omega)]
  rw [l1] at h2
  rw [l2, l3] at h3
  rw [hp, nI_toInt (by omega)] at h1
  obtain ⟨a, ha, ea⟩ := n_of h2.1 h1
  obtain ⟨b, hb, eb⟩ := n_of (n := 2) h3.1 (by have := h3.2; omega)
  refine ⟨?_, ?_, ?_⟩
  · unfold ask; rw [ea, nI_clamp (by omega)]
  · unfold ask; rw [ea, nI_clamp (by omega)]; exact ha
  · have : b = 0 ∨ b = 1 := by omega
    rcases this with rfl | rfl
    · exact Or.inl eb
    · exact Or.inr eb
theorem whB (hB : i_BT T r) (h6 : n ≤ 6) (hp : r 1 = nI p) (hp5 : p ≤ 5) (hq : r 2 = nI q) (hq6 : q ≤ 6) (hs : s < n) : ∀ i, i ≤ q → whC r n i / 2 ^ s % 2 = if soN r s i then 1 else 0
  | 0, _ => full_e n (by omega) s hs
  | i + 1, hi => by
    have ih := whB hB h6 hp hp5 hq hq6 hs i (by omega)
    obtain ⟨e1, e2, e3⟩ := an_e hB hp hp5 hq hq6 (show i < q by omega)
    obtain ⟨k1, k2⟩ := knb_e hB (show ask r i < 5 by omega)
    have hw : whC r n i < 64 := Nat.lt_of_lt_of_le (whC_lt h6 i) (p2_6 h6)
    have hb := b01 (knb r (ask r i) / 2 ^ s)
    show (if r (68 + 2 * i) = 1 then whC r n i &&& knb r (ask r i) else whC r n i &&& (63 - knb r (ask r i))) / 2 ^ s % 2 = if (soN r s i && decide (nI (knb r (ask r i) / 2 ^ s % 2) = r (68 + 2 * i))) then 1 else 0
    rcases e3 with e3 | e3
    · rw [e3, if_neg (by decide), land_e _ hw _ (by omega) s (by omega), land_n _ k2 s (by omega), ih]
      rcases hb with h | h
      · rw [h]; cases soN r s i <;> simp
      · rw [h]; cases soN r s i <;> simp <;> decide
    · rw [e3, if_pos (show nI 1 = 1 from rfl), land_e _ hw _ k2 s (by omega), ih]
      rcases hb with h | h
      · rw [h]; cases soN r s i <;> simp <;> decide
      · rw [h]; cases soN r s i <;> simp
theorem whS_e (hB : i_BT T r) (h6 : n ≤ 6) (hp : r 1 = nI p) (hp5 : p ≤ 5) (hq : r 2 = nI q) (hq6 : q ≤ 6) : ∀ s, s ≤ n → whC r n q % 2 ^ s = whS r q s
  | 0, _ => by rw [Nat.pow_zero, Nat.mod_one]; rfl
  | s + 1, hs => by
    rw [Nat.mod_pow_succ, whS_e hB h6 hp hp5 hq hq6 s (by omega), whB hB h6 hp hp5 hq hq6 (show s < n by omega) q (Nat.le_refl q), Nat.mul_comm]
    rfl
theorem whS_n (hB : i_BT T r) (h6 : n ≤ 6) (hp : r 1 = nI p) (hp5 : p ≤ 5) (hq : r 2 = nI q) (hq6 : q ≤ 6) : whS r q n = whC r n q := by
  rw [← whS_e hB h6 hp hp5 hq hq6 n (Nat.le_refl n), Nat.mod_eq_of_lt (whC_lt h6 q)]
theorem whS_lt (r : Nat → Int32) (q : Nat) : ∀ s, whS r q s < 2 ^ s
  | 0 => by show 0 < 1; omega
  | s + 1 => by
    have h1 := whS_lt r q s
    show whS r q s + (if soN r s q then 1 else 0) * 2 ^ s < 2 ^ (s + 1)
    rw [Nat.pow_succ]
    split <;> omega
theorem wh_c {kx : Int32 → Option Int32} (hR : i_Room M o r) (hB : i_BT T r) (h6 : n ≤ 6) (hp : r 1 = nI p) (hp5 : p ≤ 5) (hq : r 2 = nI q) (hq6 : q ≤ 6) : ∀ (m i k : Nat), i + m = q → m < k → fX4_possibleSparks_l11 F M o kx k (nI (whC r n i)) (nI i) = kx (nI (whC r n q)) := by
  intro m
  induction m with
  | zero =>
    intro i k hi hk
    obtain ⟨k, rfl⟩ : ∃ m, k = m + 1 := ⟨k - 1, by omega⟩
    unfold fX4_possibleSparks_l11
    rw [rm_a hR, hq, if_pos (nI_le (by omega) (by omega)), show i = q by omega]
  | succ m ih =>
    intro i k hi hk
    obtain ⟨k, rfl⟩ : ∃ m, k = m + 1 := ⟨k - 1, by omega⟩
    obtain ⟨e1, e2, e3⟩ := an_e hB hp hp5 hq hq6 (show i < q by omega)
    obtain ⟨k1, k2⟩ := knb_e hB (show ask r i < 5 by omega)
    have hw : whC r n i < 64 := Nat.lt_of_lt_of_le (whC_lt h6 i) (p2_6 h6)
    have hper : ¬ fX5_hasPerson M o (nI (ask r i)) = 0 := by
      rw [has_p (show p < 100 by omega) ((rm_p hR).trans hp), nI_toInt (by omega)]; simp; omega
    unfold fX4_possibleSparks_l11 fX4_possibleSparks_j44
    simp only [sp_do]
    rw [rm_a hR, hq, if_neg (nI_ge (by omega) (by omega)), sp_ix_nI (show i < 6 by omega) (by omega), Option.bind_some, rm_ask hR (show i < 6 by omega), e1, if_neg hper, sp_ix_nI (show ask r i < 5 by omega) (by omega), Option.bind_some, Option.bind_some, rm_know hR (show ask r i < 5 by omega), rm_rep hR (show i < 6 by omega), k1, and_e _ hw _ k2, andn_e _ hw _ k2, nI_1]
    have := ih (i + 1) k (by omega) (by omega)
    rw [show whC r n (i + 1) = if r (68 + 2 * i) = 1 then whC r n i &&& knb r (ask r i) else whC r n i &&& (63 - knb r (ask r i)) from rfl] at this
    by_cases h : r (68 + 2 * i) = 1
    · rw [if_pos h] at this ⊢; exact this
    · rw [if_neg h] at this ⊢; exact this
theorem poss_c (hF : 1000 ≤ F) (hR : i_Room M o r) (hB : i_BT T r) (hn : r 0 = nI n) (h6 : n ≤ 6) (hp : r 1 = nI p) (hp5 : p ≤ 5) (hq : r 2 = nI q) (hq6 : q ≤ 6) : fX4_possibleSparks F M o = some (nI (whC r n q)) := by
  have e := wh_c (F := F) (n := n) (kx := fun b11 => some b11) hR hB h6 hp hp5 hq hq6 q 0 F (by omega) (by omega)
  have hpos := Nat.two_pow_pos n
  have h64 := p2_6 h6
  unfold fX4_possibleSparks
  simp only [sp_do]
  rw [rm_s hR, hn, sh_e n (by omega), show nI (2 ^ n) - 1 = nI (2 ^ n - 1) from nI_sub (b := 1) hpos (by omega)]
  exact e
theorem wh_r1 {kx : Int32 → Int32 → Int32 → Option Int32} {a1 : Int32} (hr : ∀ i, sp_I M 105 i = r i) (hB : i_BT T r) (hp : r 1 = nI p) (hp5 : p ≤ 5) (hq : r 2 = nI q) (hq6 : q ≤ 6) (hs : s < 6) : ∀ (m i k : Nat), i + m = q → m < k → fX11_whichAre_l19 F M kx k a1 (nI s) (if soN r s i then 1 else 0) (nI i) = kx a1 (nI s) (if soN r s q then 1 else 0) := by
  intro m
  induction m with
  | zero =>
    intro i k hi hk
    obtain ⟨k, rfl⟩ : ∃ m, k = m + 1 := ⟨k - 1, by omega⟩
    unfold fX11_whichAre_l19
    rw [hr, hq, if_pos (nI_le (by omega) (by omega)), show i = q by omega]
  | succ m ih =>
    intro i k hi hk
    obtain ⟨k, rfl⟩ : ∃ m, k = m + 1 := ⟨k - 1, by omega⟩
    obtain ⟨e1, e2, e3⟩ := an_e hB hp hp5 hq hq6 (show i < q by omega)
    obtain ⟨k1, k2⟩ := knb_e hB (show ask r i < 5 by omega)
    have i1 : (67 : Int32) + 2 * nI i = nI (67 + 2 * i) := by rw [show (2 : Int32) * nI i = nI (2 * i) from nI_mul 2 i]; exact nI_add 67 _
    have := ih (i + 1) k (by omega) (by omega)
    rw [show soN r s (i + 1) = (soN r s i && decide (nI (knb r (ask r i) / 2 ^ s % 2) = r (68 + 2 * i))) from rfl] at this
    unfold fX11_whichAre_l19
    simp only [sp_do]
    rw [hr, hq, if_neg (nI_ge (by omega) (by omega)), i1, nI_1, nI_1, sp_ix_nI (show 67 + 2 * i < 5480 by omega) (by omega), Option.bind_some, hr, e1, show (62 : Int32) + nI (ask r i) = nI (62 + ask r i) from nI_add 62 _, sp_ix_nI (show 62 + ask r i < 5480 by omega) (by omega), Option.bind_some, sp_ix_nI (show 67 + 2 * i + 1 < 5480 by omega) (by omega), Option.bind_some, hr, hr, k1, bit_e _ k2 s hs, show 67 + 2 * i + 1 = 68 + 2 * i by omega]
    cases hso : soN r s i with
    | false =>
      rw [hso] at this
      exact this
    | true =>
      rw [hso] at this
      rw [if_pos rfl, if_neg (by decide)]
      by_cases h : nI (knb r (ask r i) / 2 ^ s % 2) = r (68 + 2 * i)
      · rw [if_pos h]
        simpa [h] using this
      · rw [if_neg h]
        simpa [h] using this
theorem wh_r {kx : Int32 → Option Int32} (hF : 1000 ≤ F) (hr : ∀ i, sp_I M 105 i = r i) (hB : i_BT T r) (hn : r 0 = nI n) (h6 : n ≤ 6) (hp : r 1 = nI p) (hp5 : p ≤ 5) (hq : r 2 = nI q) (hq6 : q ≤ 6) : ∀ (m i k : Nat), i + m = n → m < k → fX11_whichAre_l4 F M kx k (nI (whS r q i)) (nI i) = kx (nI (whS r q n)) := by
  intro m
  induction m with
  | zero =>
    intro i k hi hk
    obtain ⟨k, rfl⟩ : ∃ m, k = m + 1 := ⟨k - 1, by omega⟩
    unfold fX11_whichAre_l4
    rw [hr, hn, if_pos (nI_le (by omega) (by omega)), show i = n by omega]
  | succ m ih =>
    intro i k hi hk
    obtain ⟨k, rfl⟩ : ∃ m, k = m + 1 := ⟨k - 1, by omega⟩
    have hlt := whS_lt r q i
    have hp6 : 2 ^ i ≤ 64 := p2_6 (by omega)
    have := ih (i + 1) k (by omega) (by omega)
    rw [show whS r q (i + 1) = whS r q i + (if soN r i q then 1 else 0) * 2 ^ i from rfl] at this
    unfold fX11_whichAre_l4
    rw [hr, hn, if_neg (nI_ge (by omega) (by omega))]
    have e := wh_r1 (F := F) (s := i) (a1 := nI (whS r q i)) (kx := fun b10 b11 b12 => if b12 = 0 then fX11_whichAre_l4 F M kx k (b10 ||| 0) (b11 + 1) else sp_do (b10 ||| 1 <<< (b11 &&& 31)) fun u14 => fX11_whichAre_l4 F M kx k u14 (b11 + 1)) hr hB hp hp5 hq hq6 (by omega) q 0 F (by omega) (by omega)
    have e : fX11_whichAre_l19 F M _ F (nI (whS r q i)) (nI i) 1 0 = _ := e
    rw [e]
    simp only [sp_do]
    cases hso : soN r i q with
    | false =>
      rw [hso] at this
      rw [if_pos (show (if false = true then (1 : Int32) else 0) = 0 by decide), or_0 _ (by omega), nI_1]
      simpa using this
    | true =>
      rw [hso] at this
      rw [if_pos rfl, if_neg (by decide), show (1 : Int32) = nI 1 from rfl, or_e i (by omega) _ hlt 1 (by omega), show nI i + nI 1 = nI (i + 1) from nI_add i 1]
      simpa using this
theorem whichAre_r (hF : 1000 ≤ F) (hr : ∀ i, sp_I M 105 i = r i) (hB : i_BT T r) (hn : r 0 = nI n) (h6 : n ≤ 6) (hp : r 1 = nI p) (hp5 : p ≤ 5) (hq : r 2 = nI q) (hq6 : q ≤ 6) : fX11_whichAre F M = some (nI (whC r n q)) := by
  have e := wh_r (F := F) (kx := fun b16 => some b16) hF hr hB hn h6 hp hp5 hq hq6 n 0 F (by omega) (by omega)
  rw [whS_n hB h6 hp hp5 hq hq6] at e
  exact e
end Which
/-- which -/
theorem op_27 {F k : Nat} {M : sp_Mem} (hF : 1000 ≤ F) (hI : Inv k M) : ∃ p, gL_27 F M = some p ∧ Inv (k + 1) p := by
  obtain ⟨lf, n, hC, hX⟩ := Inv_X hF hI
  have h6 := hC.2.2.2.2.2.2.2
  have hR := hC.2.2.2.1
  have hn := hC.2.2.2.2.2.2.1
  have hB := hC.2.2.2.2.1.2
  have X0 := RX_00 hX
  obtain ⟨p, hp5, hp⟩ := bt_p hB
  obtain ⟨q, hq6, hq⟩ := hB.1.2.2.1
  suffices hx : ∃ v, fX10_which F M = some v ∧ fX11_which F M = some (v, sp_setI M 103 0 0) by
    obtain ⟨v, e1, e2⟩ := hx
    exact ⟨_, glue0 e1 e2, Inv_thrown hI⟩
  unfold fX10_which fX11_which
  simp only [sp_do]
  rw [poss_c hF hR hB hn h6 hp hp5 hq hq6, whichAre_r hF (RX_r X0) hB hn h6 hp hp5 hq hq6]
  exact ⟨_, rfl, rfl⟩
/-! let -/
theorem pop_and : ∀ a, a < 64 → ∀ b, b < 64 → pop (a &&& b) ≤ pop a := by decide +kernel
theorem pop_0 : ∀ a, a < 64 → (pop a = 0 ↔ a = 0) := by decide +kernel
def ltM (r : Nat → Int32) (w i : Nat) : Nat := if pop (w &&& knb r i) ≤ pop w - pop (w &&& knb r i) then pop w - pop (w &&& knb r i) else pop (w &&& knb r i)
def ltS (r : Nat → Int32) (w : Nat) : Nat → Option (Nat × Nat)
  | 0 => none
  | i + 1 => match ltS r w i with
    | none => some (i, ltM r w i)
    | some (b, f) => if f ≤ ltM r w i then some (b, f) else some (i, ltM r w i)
def ltB (x : Option (Nat × Nat)) : Int32 := match x with
  | none => -1
  | some (b, _) => nI b
def ltF (d : Int32) (x : Option (Nat × Nat)) : Int32 := match x with
  | none => d
  | some (_, f) => nI f
section Let
variable {F o n p q w : Nat} {M : sp_Mem} {r : Nat → Int32} {T : Int}
theorem ltM_le (hB : i_BT T r) (hw : w < 64) {i : Nat} (hi : i < 5) : ltM r w i ≤ 6 := by
  have := pop_le w hw
  unfold ltM
  have := pop_and w hw _ (knb_e hB hi).2
  split <;> omega
theorem ltS_le (hB : i_BT T r) (hw : w < 64) : ∀ i, i ≤ 5 → ∀ b f, ltS r w i = some (b, f) → b < i ∧ f ≤ 6
  | 0, _, b, f, h => by cases h
  | i + 1, hi, b, f, h => by
    have hm := ltM_le hB hw (show i < 5 by omega)
    have ih := ltS_le hB hw i (by omega)
    cases hs : ltS r w i with
    | none =>
      have h : (match ltS r w i with | none => some (i, ltM r w i) | some (b, f) => if f ≤ ltM r w i then some (b, f) else some (i, ltM r w i)) = some (b, f) := h
      rw [hs] at h
      cases h
      omega
    | some x =>
      obtain ⟨b', f'⟩ := x
      have h : (match ltS r w i with | none => some (i, ltM r w i) | some (b, f) => if f ≤ ltM r w i then some (b, f) else some (i, ltM r w i)) = some (b, f) := h
      rw [hs] at h
      dsimp only at h
      have := ih b' f' hs
      split at h
      · cases h; omega
      · cases h; omega
theorem lt_c {kx : Int32 → Int32 → Int32 → Option Int32} {a1 : Int32} (hR : i_Room M o r) (hB : i_BT T r) (hp : r 1 = nI p) (hp5 : p ≤ 5) (hw : w < 64) (hw0 : w ≠ 0) : ∀ (m i k : Nat), i + m = p → m < k → fX4_nextCaller_l20 F M o kx k a1 (nI w) (nI (pop w)) (ltB (ltS r w i)) (ltF 7 (ltS r w i)) (nI i) = kx a1 (ltB (ltS r w p)) (ltF 7 (ltS r w p)) := by
  intro m
  induction m with
  | zero =>
    intro i k hi hk
    obtain ⟨k, rfl⟩ : ∃ m, k = m + 1 := ⟨k - 1, by omega⟩
    unfold fX4_nextCaller_l20
    rw [rm_p hR, hp, if_pos (nI_le (by omega) (by omega)), show i = p by omega]
  | succ m ih =>
    intro i k hi hk
    obtain ⟨k, rfl⟩ : ∃ m, k = m + 1 := ⟨k - 1, by omega⟩
    obtain ⟨k1, k2⟩ := knb_e hB (show i < 5 by omega)
    have hpw := pop_le w hw
    have hpa := pop_and w hw _ k2
    have hp0 : 0 < pop w := by
      have := pop_0 w hw
      omega
    have hand : w &&& knb r i < 64 := Nat.lt_of_le_of_lt Nat.and_le_left hw
    have hmax : sp_max (nI (pop (w &&& knb r i))) (nI (pop w) - nI (pop (w &&& knb r i))) = nI (ltM r w i) := by
      rw [nI_sub hpa (by omega)]
      unfold sp_max ltM
      by_cases h : pop (w &&& knb r i) < pop w - pop (w &&& knb r i)
      · rw [if_pos (nI_lt h (by omega)), if_pos (by omega)]
      · rw [if_neg (nI_nlt (by omega) (by omega))]
        split
        · congr 1; omega
        · rfl
    have hm := ltM_le hB hw (show i < 5 by omega)
    have := ih (i + 1) k (by omega) (by omega)
    unfold fX4_nextCaller_l20
    simp only [sp_do]
    rw [rm_p hR, hp, if_neg (nI_ge (by omega) (by omega)), if_neg (nI_nle hp0 (by omega)), sp_ix_nI (show i < 5 by omega) (by omega), Option.bind_some, rm_know hR (show i < 5 by omega), k1, and_e _ hw _ k2, pop_c _ hand, hmax, nI_1]
    cases hs : ltS r w i with
    | none =>
      have hs1 : ltS r w (i + 1) = some (i, ltM r w i) := by
        show (match ltS r w i with | none => some (i, ltM r w i) | some (b, f) => if f ≤ ltM r w i then some (b, f) else some (i, ltM r w i)) = _
        rw [hs]
      rw [hs1] at this
      rw [if_neg (show ¬ ltF 7 none ≤ nI (ltM r w i) from nI_ge (b := 7) (by omega) (by omega))]
      exact this
    | some x =>
      obtain ⟨b, f⟩ := x
      have hbf := ltS_le hB hw i (by omega) b f hs
      have hs1 : ltS r w (i + 1) = if f ≤ ltM r w i then some (b, f) else some (i, ltM r w i) := by
        show (match ltS r w i with | none => some (i, ltM r w i) | some (b, f) => if f ≤ ltM r w i then some (b, f) else some (i, ltM r w i)) = _
        rw [hs]
      rw [hs1] at this
      by_cases h : f ≤ ltM r w i
      · rw [if_pos h] at this
        rw [if_pos (show ltF 7 (some (b, f)) ≤ nI (ltM r w i) from nI_le h (by omega))]
        exact this
      · rw [if_neg h] at this
        rw [if_neg (show ¬ ltF 7 (some (b, f)) ≤ nI (ltM r w i) from nI_ge (by omega) (by omega))]
        exact this
theorem lt_r {kx : Int32 → Int32 → Int32 → sp_Mem → Option (Int32 × sp_Mem)} {a1 : Int32} (hF : 1000 ≤ F) (hr : ∀ i, sp_I M 105 i = r i) (hB : i_BT T r) (hp : r 1 = nI p) (hp5 : p ≤ 5) (hw : w < 64) : ∀ (m i k : Nat), i + m = p → m < k → fX11_let_l36 F kx k a1 (nI w) (ltF 100000000 (ltS r w i)) (ltB (ltS r w i)) (nI i) M = kx a1 (ltF 100000000 (ltS r w p)) (ltB (ltS r w p)) M := by
  intro m
  induction m with
  | zero =>
    intro i k hi hk
    obtain ⟨k, rfl⟩ : ∃ m, k = m + 1 := ⟨k - 1, by omega⟩
    unfold fX11_let_l36
    rw [hr, hp, if_pos (nI_le (by omega) (by omega)), show i = p by omega]
  | succ m ih =>
    intro i k hi hk
    obtain ⟨k, rfl⟩ : ∃ m, k = m + 1 := ⟨k - 1, by omega⟩
    obtain ⟨k1, k2⟩ := knb_e hB (show i < 5 by omega)
    have hpw := pop_le w hw
    have hpa := pop_and w hw _ k2
    have hand : w &&& knb r i < 64 := Nat.lt_of_le_of_lt Nat.and_le_left hw
    have hm := ltM_le hB hw (show i < 5 by omega)
    have := ih (i + 1) k (by omega) (by omega)
    have hgo : ∀ kb : Int32 → Int32 → Int32 → Int32 → Int32 → sp_Mem → Option (Int32 × sp_Mem), ∀ a3 a4 : Int32, (if nI (pop (w &&& knb r i)) ≤ nI (pop w) - nI (pop (w &&& knb r i)) then fX11_let_j88 F kb kx a1 (nI w) a3 a4 (nI i) (nI (pop w) - nI (pop (w &&& knb r i))) M else fX11_let_j88 F kb kx a1 (nI w) a3 a4 (nI i) (nI (pop (w &&& knb r i))) M) = fX11_let_j88 F kb kx a1 (nI w) a3 a4 (nI i) (nI (ltM r w i)) M := by
      intro kb a3 a4
      rw [nI_sub hpa (by omega)]
      unfold ltM
      by_cases h : pop (w &&& knb r i) ≤ pop w - pop (w &&& knb r i)
      · rw [if_pos (nI_le h (by omega)), if_pos h]
      · rw [if_neg (nI_ge (by omega) (by omega)), if_neg h]
    unfold fX11_let_l36
    rw [hr, hp, if_neg (nI_ge (by omega) (by omega)), show (62 : Int32) + nI i = nI (62 + i) from nI_add 62 i, sp_ix_nI (show 62 + i < 5480 by omega) (by omega), Option.bind_some, hr, k1, and_e _ hw _ k2, ones_e hF hand, Option.bind_some, ones_e hF hw, Option.bind_some, Option.bind_some, hgo]
    unfold fX11_let_j88 fX11_let_j103
    simp only [sp_do]
    rw [nI_1]
    cases hs : ltS r w i with
    | none =>
      have hs1 : ltS r w (i + 1) = some (i, ltM r w i) := by
        show (match ltS r w i with | none => some (i, ltM r w i) | some (b, f) => if f ≤ ltM r w i then some (b, f) else some (i, ltM r w i)) = _
        rw [hs]
      rw [hs1] at this
      have hc : ¬ ltF 100000000 none ≤ nI (ltM r w i) := nI_ge (b := 100000000) (by omega) (by omega)
      rw [if_neg hc, if_neg hc]
      exact this
    | some x =>
      obtain ⟨b, f⟩ := x
      have hbf := ltS_le hB hw i (by omega) b f hs
      have hs1 : ltS r w (i + 1) = if f ≤ ltM r w i then some (b, f) else some (i, ltM r w i) := by
        show (match ltS r w i with | none => some (i, ltM r w i) | some (b, f) => if f ≤ ltM r w i then some (b, f) else some (i, ltM r w i)) = _
        rw [hs]
      rw [hs1] at this
      by_cases h : f ≤ ltM r w i
      · rw [if_pos h] at this
        have hc : ltF 100000000 (some (b, f)) ≤ nI (ltM r w i) := nI_le h (by omega)
        rw [if_pos hc, if_pos hc]
        exact this
      · rw [if_neg h] at this
        have hc : ¬ ltF 100000000 (some (b, f)) ≤ nI (ltM r w i) := nI_ge (by omega) (by omega)
        rw [if_neg hc, if_neg hc]
        exact this
end Let
/-- let -/
theorem op_28 {F k : Nat} {M : sp_Mem} (hF : 1000 ≤ F) (hI : Inv k M) (w1 : Int32) : ∃ p, gL_28 F M w1 = some p ∧ Inv (k + 1) p := by
  obtain ⟨lf, n, hC, hX⟩ := Inv_X hF hI
  have h6 := hC.2.2.2.2.2.2.2
  have hR := hC.2.2.2.1
  have hn := hC.2.2.2.2.2.2.1
  have hB := hC.2.2.2.2.1.2
  have X0 := RX_00 hX
  obtain ⟨p, hp5, hp⟩ := bt_p hB
  obtain ⟨q, hq6, hq⟩ := hB.1.2.2.1
  have hw : whC (rM M) n q < 64 := Nat.lt_of_lt_of_le (whC_lt h6 q) (p2_6 h6)
  suffices hx : ∃ v, fX10_let F M w1 = some v ∧ fX11_let F M w1 = some (v, sp_setI M 103 0 0) by
    obtain ⟨v, e1, e2⟩ := hx
    exact ⟨_, glue0 e1 e2, Inv_thrown hI⟩
  unfold fX10_let fX11_let fX4_nextCaller
  simp only [sp_do, w_in, m_in, n_l, show (0 : Int32).toInt = 0 from rfl, show (1 : Int32).toInt = 1 from rfl, show (0 : Int64).toInt = 0 from rfl, show (1 : Int64).toInt = 1 from rfl]
  rw [poss_c hF hR hB hn h6 hp hp5 hq hq6, whichAre_r hF (RX_r X0) hB hn h6 hp hp5 hq hq6, Option.bind_some, Option.bind_some, pop_c _ hw]
  by_cases h : 0 ≤ w1.toInt ∧ w1.toInt ≤ 1
  · rw [if_neg (by simpa using h), if_neg (by simpa using h)]
    generalize whC (rM M) n q = w at hw ⊢
    by_cases hw0 : w = 0
    · have hp0 : pop w = 0 := (pop_0 w hw).mpr hw0
      rw [if_pos (show nI w = 0 by rw [hw0]; rfl)]
      refine ⟨-1, ?_, rfl⟩
      obtain ⟨F', rfl⟩ : ∃ F', F = F' + 1 := ⟨F - 1, by omega⟩
      rw [fX4_nextCaller_l20]
      by_cases h0 : sp_I M 6 8 ≤ 0
      · rw [if_pos h0]; rfl
      · rw [if_neg h0, if_pos (show nI (pop w) ≤ 0 by rw [hp0]; decide)]; rfl
    · rw [if_neg (show ¬ nI w = 0 from nI_ne0 (by omega) (by omega))]
      have e1 := lt_c (F := F) (w := w) (a1 := w1) (kx := fun b10 b11 b12 => fX4_nextCaller_j79 F M 6 b10 b11 b12) hR hB hp hp5 hw hw0 p 0 F (by omega) (by omega)
      have e2 := lt_r (F := F) (w := w) (a1 := w1) (M := sp_setI M 103 0 0) (kx := fun b15 b16 b17 M14 => some (if b17 = -1 then b17 else if b15 = 0 then b17 else b16, M14)) hF (RX_r X0) hB hp hp5 hw p 0 F (by omega) (by omega)
      have e1 : fX4_nextCaller_l20 F M 6 _ F w1 (nI w) (nI (pop w)) (-1) 7 0 = _ := e1
      have e2 : fX11_let_l36 F _ F w1 (nI w) 100000000 (-1) 0 (sp_setI M 103 0 0) = _ := e2
      rw [e1, e2]
      unfold fX4_nextCaller_j79
      cases hs : ltS (rM M) w p with
      | none => exact ⟨_, rfl, rfl⟩
      | some x => exact ⟨_, rfl, rfl⟩
  · rw [if_pos h, if_pos h]
    exact ⟨_, rfl, rfl⟩
