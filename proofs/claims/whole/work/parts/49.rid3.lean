/-! ===== anew ===== -/
def okp (r : Nat → Int32) (set s h : Nat) : Bool := decide (set / 2 ^ s % 2 = 1) || (decide (set / 2 ^ h % 2 = 1) || !alk r s h)
def apI (r : Nat → Int32) (set s : Nat) : Nat → Nat → Bool
  | 0, _ => true
  | m + 1, h => okp r set s h && apI r set s m (h + 1)
def apO (r : Nat → Int32) (set n : Nat) : Nat → Nat → Bool
  | 0, _ => true
  | m + 1, s => apI r set s (n - (s + 1)) (s + 1) && apO r set n m (s + 1)
def VA (r : Nat → Int32) (n set : Nat) : Bool := apO r set n n 0
def lsB (d : Int32) (x : Option Nat) : Int32 := match x with
  | none => d
  | some c => nI c
def lsL (x : Option Nat) : Int32 := match x with
  | none => 100000000
  | some c => nI (pop c)
section Anew
variable {F o n set : Nat} {M : sp_Mem} {r : Nat → Int32}
theorem an_c1 {kx : Int32 → Int32 → Option Int32} (hR : i_Room M o r) (hn : r 0 = nI n) (h6 : n ≤ 6) (hset : set < 64) {s : Nat} (hs : s < n) : ∀ (m h k : Nat), h + m = n → m < k → fX4_othersDiffer_l14 F M o kx k (nI set) (nI s) (nI h) = if apI r set s m h then kx (nI set) (nI s) else some 0 := by
  intro m
  induction m with
  | zero =>
    intro h k hh hk
    obtain ⟨k, rfl⟩ : ∃ m, k = m + 1 := ⟨k - 1, by omega⟩
    unfold fX4_othersDiffer_l14
    rw [rm_s hR, hn, if_pos (nI_le (by omega) (by omega))]
    rfl
  | succ m ih =>
    intro h k hh hk
    obtain ⟨k, rfl⟩ : ∃ m, k = m + 1 := ⟨k - 1, by omega⟩
    have := ih (h + 1) k (by omega) (by omega)
    show _ = if (okp r set s h && apI r set s m (h + 1)) then _ else _
    unfold fX4_othersDiffer_l14 fX4_othersDiffer_j42 fX4_othersDiffer_j43 okp
    rw [rm_s hR, hn, if_neg (nI_ge (by omega) (by omega)), bit_e _ hset s (by omega), bit_e _ hset h (by omega), nI_1]
    rcases b01 (set / 2 ^ s) with h1 | h1
    · rw [h1, if_pos (show nI 0 = 0 from rfl)]
      rcases b01 (set / 2 ^ h) with h2 | h2
      · rw [h2, if_pos (show nI 0 = 0 from rfl), if_neg (by decide), sp_ix_nI (show s < 6 by omega) (by omega), Option.bind_some, sp_ix_nI (show h < 6 by omega) (by omega), Option.bind_some, rm_name hR (show s < 6 by omega), rm_name hR (show h < 6 by omega), alk_c, Option.bind_some]
        cases alk r s h with
        | false => simpa using this
        | true => rfl
      · rw [h2, if_neg (show ¬ nI 1 = 0 by decide), if_pos rfl]
        simpa using this
    · rw [h1, if_neg (show ¬ nI 1 = 0 by decide), if_pos rfl]
      simpa using this
theorem an_c2 {kx : Option Int32} (hF : 1000 ≤ F) (hR : i_Room M o r) (hn : r 0 = nI n) (h6 : n ≤ 6) (hset : set < 64) : ∀ (m s k : Nat), s + m = n → m < k → fX4_othersDiffer_l2 F M o kx k (nI set) (nI s) = if apO r set n m s then kx else some 0 := by
  intro m
  induction m with
  | zero =>
    intro s k hh hk
    obtain ⟨k, rfl⟩ : ∃ m, k = m + 1 := ⟨k - 1, by omega⟩
    unfold fX4_othersDiffer_l2
    rw [rm_s hR, hn, if_pos (nI_le (by omega) (by omega))]
    rfl
  | succ m ih =>
    intro s k hh hk
    obtain ⟨k, rfl⟩ : ∃ m, k = m + 1 := ⟨k - 1, by omega⟩
    have := ih (s + 1) k (by omega) (by omega)
    show _ = if (apI r set s (n - (s + 1)) (s + 1) && apO r set n m (s + 1)) then _ else _
    unfold fX4_othersDiffer_l2
    rw [rm_s hR, hn, if_neg (nI_ge (by omega) (by omega)), nI_1, an_c1 hR hn h6 hset (by omega) (n - (s + 1)) (s + 1) F (by omega) (by omega), nI_1, this]
    cases apI r set s (n - (s + 1)) (s + 1) <;> simp
theorem od_c (hF : 1000 ≤ F) (hR : i_Room M o r) (hn : r 0 = nI n) (h6 : n ≤ 6) (hset : set < 64) : fX4_othersDiffer F M o (nI set) = some (if VA r n set then 1 else 0) := by
  have e := an_c2 (F := F) (kx := some 1) hF hR hn h6 hset n 0 F (by omega) (by omega)
  have e : fX4_othersDiffer F M o (nI set) = _ := e
  rw [e]
  show _ = some (if apO r set n n 0 then 1 else 0)
  cases apO r set n n 0 <;> rfl
theorem an_r1 {kx : Int32 → Int32 → Int32 → Option Int32} (hr : ∀ i, sp_I M 105 i = r i) (hn : r 0 = nI n) (h6 : n ≤ 6) (hset : set < 64) {s : Nat} (hs : s < n) : ∀ (m h k : Nat) (so : Bool), h + m = n → m < k → fX11_areApart_l19 F M kx k (nI set) (if so then 1 else 0) (nI s) (nI h) = kx (nI set) (if (so && apI r set s m h) then 1 else 0) (nI s) := by
  intro m
  induction m with
  | zero =>
    intro h k so hh hk
    obtain ⟨k, rfl⟩ : ∃ m, k = m + 1 := ⟨k - 1, by omega⟩
    unfold fX11_areApart_l19
    rw [hr, hn, if_pos (nI_le (by omega) (by omega))]
    cases so <;> rfl
  | succ m ih =>
    intro h k so hh hk
    obtain ⟨k, rfl⟩ : ∃ m, k = m + 1 := ⟨k - 1, by omega⟩
    have iht := ih (h + 1) k true (by omega) (by omega)
    have ihf := ih (h + 1) k false (by omega) (by omega)
    show _ = kx (nI set) (if (so && (okp r set s h && apI r set s m (h + 1))) then 1 else 0) (nI s)
    unfold fX11_areApart_l19 fX11_is okp
    simp only [sp_do]
    rw [hr, hn, if_neg (nI_ge (by omega) (by omega)), bit_e _ hset s (by omega), bit_e _ hset h (by omega), nI_1]
    cases so with
    | false =>
      rw [if_pos (show (if false = true then (1 : Int32) else 0) = 0 by decide)]
      simpa using ihf
    | true =>
      rw [if_neg (show ¬ (if true = true then (1 : Int32) else 0) = 0 by decide)]
      rcases b01 (set / 2 ^ s) with h1 | h1
      · rw [h1, if_neg (show ¬ nI 0 = 1 by decide), if_pos rfl]
        rcases b01 (set / 2 ^ h) with h2 | h2
        · rw [h2, if_neg (show ¬ nI 0 = 1 by decide), if_pos rfl, alk_r hr (by omega) (by omega), Option.bind_some]
          cases alk r s h with
          | false => simpa using iht
          | true => simpa using ihf
        · rw [h2, if_pos (show nI 1 = 1 from rfl), if_neg (by decide)]
          simpa using iht
      · rw [h1, if_pos (show nI 1 = 1 from rfl), if_neg (by decide)]
        simpa using iht
theorem an_r2 {kx : Int32 → Option Int32} (hF : 1000 ≤ F) (hr : ∀ i, sp_I M 105 i = r i) (hn : r 0 = nI n) (h6 : n ≤ 6) (hset : set < 64) : ∀ (m s k : Nat) (so : Bool), s + m = n → m < k → fX11_areApart_l4 F M kx k (nI set) (if so then 1 else 0) (nI s) = kx (if (so && apO r set n m s) then 1 else 0) := by
  intro m
  induction m with
  | zero =>
    intro s k so hh hk
    obtain ⟨k, rfl⟩ : ∃ m, k = m + 1 := ⟨k - 1, by omega⟩
    unfold fX11_areApart_l4
    rw [hr, hn, if_pos (nI_le (by omega) (by omega))]
    cases so <;> rfl
  | succ m ih =>
    intro s k so hh hk
    obtain ⟨k, rfl⟩ : ∃ m, k = m + 1 := ⟨k - 1, by omega⟩
    unfold fX11_areApart_l4
    rw [hr, hn, if_neg (nI_ge (by omega) (by omega)), nI_1, an_r1 hr hn h6 hset (by omega) (n - (s + 1)) (s + 1) F so (by omega) (by omega), nI_1, ih (s + 1) k _ (by omega) (by omega), Bool.and_assoc]
    rfl
theorem ap_r (hF : 1000 ≤ F) (hr : ∀ i, sp_I M 105 i = r i) (hn : r 0 = nI n) (h6 : n ≤ 6) (hset : set < 64) : fX11_areApart F M (nI set) = some (if VA r n set then 1 else 0) := by
  have e := an_r2 (F := F) (kx := fun b14 => (sp_b01 b14).bind fun _ => some b14) hF hr hn h6 hset n 0 F true (by omega) (by omega)
  have e : fX11_areApart F M (nI set) = _ := e
  rw [e]
  show _ = some (if apO r set n n 0 then 1 else 0)
  cases apO r set n n 0 <;> rfl
theorem VA_full (h6 : n ≤ 6) : VA r n (2 ^ n - 1) = true := by
  have hI : ∀ (s m h : Nat), s < n → apI r (2 ^ n - 1) s m h = true := by
    intro s m
    induction m with
    | zero => intro h _; rfl
    | succ m ih =>
      intro h hs
      show (okp r (2 ^ n - 1) s h && apI r (2 ^ n - 1) s m (h + 1)) = true
      rw [ih (h + 1) hs]
      unfold okp
      rw [full_e n (by omega) s hs]
      rfl
  have hO : ∀ (m s : Nat), s + m = n → apO r (2 ^ n - 1) n m s = true := by
    intro m
    induction m with
    | zero => intro s _; rfl
    | succ m ih =>
      intro s hs
      show (apI r (2 ^ n - 1) s (n - (s + 1)) (s + 1) && apO r (2 ^ n - 1) n m (s + 1)) = true
      rw [hI s _ _ (by omega), ih (s + 1) (by omega)]
      rfl
  exact hO n 0 (by omega)
theorem na_c {kx : Int32 → Option Int32} (hF : 1000 ≤ F) (hR : i_Room M o r) (hn : r 0 = nI n) (h6 : n ≤ 6) : ∀ (t k c : Nat), t < k → t ≤ 64 → c < 64 → ∃ d, dnC (VA r n) t (some c) = some d ∧ fX4_namedAnew_l13 F M o kx k (nI c) (nI t - 1) = kx (nI d) := by
  intro t
  induction t with
  | zero =>
    intro k c hk ht hc
    obtain ⟨k, rfl⟩ : ∃ m, k = m + 1 := ⟨k - 1, by omega⟩
    refine ⟨c, rfl, ?_⟩
    unfold fX4_namedAnew_l13
    rw [if_pos (by decide)]
  | succ t ih =>
    intro k c hk ht hc
    obtain ⟨k, rfl⟩ : ∃ m, k = m + 1 := ⟨k - 1, by omega⟩
    have hm : nI t + (-1) = nI t - 1 := (Int32.sub_eq_add_neg _ _).symm
    have hpc := pop_le c hc
    have hpt := pop_le t (by omega)
    rw [show dnC (VA r n) (t + 1) (some c) = dnC (VA r n) t (if pop t ≤ pop c then (if VA r n t then some t else some c) else some c) from rfl, nI_pred]
    unfold fX4_namedAnew_l13
    rw [if_neg (nI_pos (by omega)), pop_c c hc, pop_c t (by omega), od_c hF hR hn h6 (by omega), Option.bind_some, hm]
    by_cases hp : pop t ≤ pop c
    · rw [if_pos hp, if_neg (nI_nlt hp (by omega))]
      cases VA r n t with
      | false => exact ih k c (by omega) (by omega) hc
      | true => exact ih k t (by omega) (by omega) (by omega)
    · rw [if_neg hp, if_pos (nI_lt (by omega) (by omega))]
      exact ih k c (by omega) (by omega) hc
theorem na_r {kx : Int32 → Int32 → Int32 → sp_Mem → Option (Int32 × sp_Mem)} {a1 : Int32} (hF : 1000 ≤ F) (hr : ∀ i, sp_I M 105 i = r i) (hn : r 0 = nI n) (h6 : n ≤ 6) : ∀ (m t k : Nat), t + m = 2 ^ n → m < k → fX11_anew_l26 F kx k a1 (lsL (upR (VA r n) t)) (lsB 0 (upR (VA r n) t)) (nI t) M = kx a1 (lsL (upR (VA r n) (2 ^ n))) (lsB 0 (upR (VA r n) (2 ^ n))) M := by
  have h64 := p2_6 h6
  intro m
  induction m with
  | zero =>
    intro t k hh hk
    obtain ⟨k, rfl⟩ : ∃ m, k = m + 1 := ⟨k - 1, by omega⟩
    unfold fX11_anew_l26
    rw [hr, hn, sh_e n (by omega), if_pos (nI_le (by omega) (by omega)), show t = 2 ^ n by omega]
  | succ m ih =>
    intro t k hh hk
    obtain ⟨k, rfl⟩ : ∃ m, k = m + 1 := ⟨k - 1, by omega⟩
    have hpt := pop_le t (by omega)
    have := ih (t + 1) k (by omega) (by omega)
    have hgo : ∀ (kb : Int32 → Int32 → Int32 → Int32 → sp_Mem → Option (Int32 × sp_Mem)) (a2 a3 : Int32) (b : Bool), fX11_anew_j62 F kb kx a1 a2 a3 (nI t) (if (if b then (1 : Int32) else 0) = 0 then 0 else 1) M = if b then kb a1 (nI (pop t)) (nI t) (nI (t + 1)) M else kb a1 a2 a3 (nI (t + 1)) M := by
      intro kb a2 a3 b
      unfold fX11_anew_j62 fX11_anew_j75
      rw [ones_e hF (by omega), nI_1]
      cases b <;> rfl
    have hgo0 : ∀ (kb : Int32 → Int32 → Int32 → Int32 → sp_Mem → Option (Int32 × sp_Mem)) (a2 a3 : Int32), fX11_anew_j61 F kb kx a1 a2 a3 (nI t) M = kb a1 a2 a3 (nI (t + 1)) M := by
      intro kb a2 a3
      unfold fX11_anew_j61 fX11_anew_j62 fX11_anew_j75
      rw [nI_1]
      rfl
    unfold fX11_anew_l26
    rw [hr, hn, sh_e n (by omega), if_neg (nI_ge (by omega) (by omega)), ones_e hF (by omega), Option.bind_some, ap_r hF hr hn h6 (by omega), Option.bind_some, hgo, hgo0]
    cases hu : upR (VA r n) t with
    | none =>
      have hs1 : upR (VA r n) (t + 1) = if VA r n t then some t else none := by
        show (match upR (VA r n) t with | none => if VA r n t then some t else none | some c => if pop t < pop c then (if VA r n t then some t else some c) else some c) = _
        rw [hu]
      rw [hs1] at this
      rw [if_neg (show ¬ lsL none ≤ nI (pop t) from nI_ge (b := 100000000) (by omega) (by omega))]
      cases hv : VA r n t with
      | false => rw [hv] at this; exact this
      | true => rw [hv] at this; exact this
    | some c =>
      have hc : c < t := upR_lt _ hu
      have hpc := pop_le c (by omega)
      have hs1 : upR (VA r n) (t + 1) = if pop t < pop c then (if VA r n t then some t else some c) else some c := by
        show (match upR (VA r n) t with | none => if VA r n t then some t else none | some c => if pop t < pop c then (if VA r n t then some t else some c) else some c) = _
        rw [hu]
      rw [hs1] at this
      by_cases hp : pop t < pop c
      · rw [if_pos hp] at this
        rw [if_neg (show ¬ lsL (some c) ≤ nI (pop t) from nI_ge hp (by omega))]
        cases hv : VA r n t with
        | false => rw [hv] at this; exact this
        | true => rw [hv] at this; exact this
      · rw [if_neg hp] at this
        rw [if_pos (show lsL (some c) ≤ nI (pop t) from nI_le (by omega) (by omega))]
        exact this
end Anew
/-- anew -/
theorem op_30 {F k : Nat} {M : sp_Mem} (hF : 1000 ≤ F) (hI : Inv k M) (w1 : Int32) : ∃ p, gL_30 F M w1 = some p ∧ Inv (k + 1) p := by
  obtain ⟨lf, n, hC, hX⟩ := Inv_X hF hI
  have h6 := hC.2.2.2.2.2.2.2
  have hR := hC.2.2.2.1
  have hn := hC.2.2.2.2.2.2.1
  have X0 := RX_00 hX
  have h64 := p2_6 h6
  have hpos := Nat.two_pow_pos n
  suffices hx : ∃ v, fX10_anew F M w1 = some v ∧ fX11_anew F M w1 = some (v, sp_setI M 103 0 0) by
    obtain ⟨v, e1, e2⟩ := hx
    exact ⟨_, glue0 e1 e2, Inv_thrown hI⟩
  unfold fX10_anew fX11_anew fX4_namedAnew
  simp only [sp_do, w_in, m_in, n_l, show (0 : Int32).toInt = 0 from rfl, show (1 : Int32).toInt = 1 from rfl, show (0 : Int64).toInt = 0 from rfl, show (1 : Int64).toInt = 1 from rfl]
  by_cases h : 0 ≤ w1.toInt ∧ w1.toInt ≤ 1
  · rw [if_neg (by simpa using h), if_neg (by simpa using h)]
    obtain ⟨d, d1, d2⟩ := na_c (F := F) (M := M) (o := 6) (r := rM M) (kx := fun b7 => some b7) hF hR hn h6 (2 ^ n - 1) F (2 ^ n - 1) (by omega) (by omega) (by omega)
    have e2 := na_r (F := F) (M := sp_setI M 103 0 0) (a1 := w1) (kx := fun b12 b13 b14 M11 => some (if b12 = 0 then b13 else b14, M11)) hF (RX_r X0) hn h6 (2 ^ n) 0 F (by omega) (by omega)
    have e2 : fX11_anew_l26 F _ F w1 100000000 0 0 (sp_setI M 103 0 0) = _ := e2
    have hu : upR (VA (rM M) n) (2 ^ n) = some d := by
      rw [← dn_up, ← d1]
      have : 2 ^ n = (2 ^ n - 1) + 1 := by omega
      rw [show dnC (VA (rM M) n) (2 ^ n) none = dnC (VA (rM M) n) ((2 ^ n - 1) + 1) none by rw [← this]]
      show dnC (VA (rM M) n) (2 ^ n - 1) (if VA (rM M) n (2 ^ n - 1) then some (2 ^ n - 1) else none) = _
      rw [VA_full h6]
      rfl
    have hd : d < 64 := by have := upR_lt _ hu; omega
    rw [hu] at e2
    rw [(rm_s hR).trans hn, sh_e n (by omega), show nI (2 ^ n) - 1 = nI (2 ^ n - 1) from nI_sub (b := 1) hpos (by omega), d2, Option.bind_some, e2]
    refine ⟨_, rfl, ?_⟩
    unfold fX10_numberOrBits
    rw [pop_c d hd]
    rfl
  · rw [if_pos h, if_pos h]
    exact ⟨_, rfl, rfl⟩
/-! ===== guard ===== -/
def gdI (r : Nat → Int32) (p kk set : Nat) : Nat → Nat → Bool
  | 0, _ => true
  | m + 1, s => (decide (r (9 + s) = -1) || decide (kk < pop (set &&& kw r s p))) && gdI r p kk set m (s + 1)
def VG (r : Nat → Int32) (n p kk set : Nat) : Bool := gdI r p kk set n 0
section Guard
variable {F o n p kk set : Nat} {M : sp_Mem} {r : Nat → Int32} {T : Int}
theorem gd_c1 {kx : Option Int32} (hF : 1000 ≤ F) (hR : i_Room M o r) (hB : i_BT T r) (hn : r 0 = nI n) (h6 : n ≤ 6) (hp : r 1 = nI p) (hp5 : p ≤ 5) (hk4 : kk ≤ 4) (hset : set < 64) : ∀ (m s k : Nat), s + m = n → m < k → fX4_isGuard_l2 F M o kx k (nI set) (nI kk) (nI s) = if gdI r p kk set m s then kx else some 0 := by
  intro m
  induction m with
  | zero =>
    intro s k hh hk
    obtain ⟨k, rfl⟩ : ∃ m, k = m + 1 := ⟨k - 1, by omega⟩
    unfold fX4_isGuard_l2
    rw [rm_s hR, hn, if_pos (nI_le (by omega) (by omega))]
    rfl
  | succ m ih =>
    intro s k hh hk
    obtain ⟨k, rfl⟩ : ∃ m, k = m + 1 := ⟨k - 1, by omega⟩
    have := ih (s + 1) k (by omega) (by omega)
    have hkw := kw64 r s hp5
    have hand : set &&& kw r s p < 64 := Nat.lt_of_le_of_lt Nat.and_le_left hset
    have hpl := pop_le _ hand
    show _ = if ((decide (r (9 + s) = -1) || decide (kk < pop (set &&& kw r s p))) && gdI r p kk set m (s + 1)) then _ else _
    unfold fX4_isGuard_l2
    rw [rm_s hR, hn, if_neg (nI_ge (by omega) (by omega)), sp_ix_nI (show s < 6 by omega) (by omega), Option.bind_some, rm_cell hR (show s < 6 by omega), nI_1, knowers_c hF hR hB hp hp5 (by omega), Option.bind_some, and_e _ hset _ hkw, pop_c _ hand]
    by_cases hm : r (9 + s) = -1
    · rw [if_pos hm, this]
      simp [hm]
    · rw [if_neg hm]
      by_cases hc : kk < pop (set &&& kw r s p)
      · rw [if_pos (nI_lt hc (by omega)), this]
        simp [hc]
      · rw [if_neg (nI_nlt (by omega) (by omega))]
        simp [hm, hc]
theorem ig_c (hF : 1000 ≤ F) (hR : i_Room M o r) (hB : i_BT T r) (hn : r 0 = nI n) (h6 : n ≤ 6) (hp : r 1 = nI p) (hp5 : p ≤ 5) (hk4 : kk ≤ 4) (hset : set < 64) : fX4_isGuard F M o (nI set) (nI kk) = some (if VG r n p kk set then 1 else 0) := by
  have e := gd_c1 (F := F) (kx := some 1) hF hR hB hn h6 hp hp5 hk4 hset n 0 F (by omega) (by omega)
  have e : fX4_isGuard F M o (nI set) (nI kk) = _ := e
  rw [e]
  show _ = some (if gdI r p kk set n 0 then 1 else 0)
  cases gdI r p kk set n 0 <;> rfl
theorem gd_r1 {kx : Int32 → Option Int32} (hF : 1000 ≤ F) (hr : ∀ i, sp_I M 105 i = r i) (hB : i_BT T r) (hn : r 0 = nI n) (h6 : n ≤ 6) (hp : r 1 = nI p) (hp5 : p ≤ 5) (hk4 : kk ≤ 4) (hset : set < 64) : ∀ (m s k : Nat) (so : Bool), s + m = n → m < k → fX11_areGuarded_l5 F M kx k (nI set) (nI kk) (if so then 1 else 0) (nI s) = kx (if (so && gdI r p kk set m s) then 1 else 0) := by
  intro m
  induction m with
  | zero =>
    intro s k so hh hk
    obtain ⟨k, rfl⟩ : ∃ m, k = m + 1 := ⟨k - 1, by omega⟩
    unfold fX11_areGuarded_l5
    rw [hr, hn, if_pos (nI_le (by omega) (by omega))]
    cases so <;> rfl
  | succ m ih =>
    intro s k so hh hk
    obtain ⟨k, rfl⟩ : ∃ m, k = m + 1 := ⟨k - 1, by omega⟩
    have iht := ih (s + 1) k true (by omega) (by omega)
    have ihf := ih (s + 1) k false (by omega) (by omega)
    have hkw := kw64 r s hp5
    have hand : set &&& kw r s p < 64 := Nat.lt_of_le_of_lt Nat.and_le_left hset
    have hpl := pop_le _ hand
    show _ = kx (if (so && ((decide (r (9 + s) = -1) || decide (kk < pop (set &&& kw r s p))) && gdI r p kk set m (s + 1))) then 1 else 0)
    unfold fX11_areGuarded_l5 fX11_isLoose
    simp only [sp_do]
    rw [hr, hn, if_neg (nI_ge (by omega) (by omega)), show (9 : Int32) + nI s = nI (9 + s) from nI_add 9 s, sp_ix_nI (show 9 + s < 5480 by omega) (by omega), Option.bind_some, Option.bind_some, hr, nI_1, knownTo_r hF hr hB hp hp5 (by omega), Option.bind_some, and_e _ hkw _ hset, Nat.and_comm, ones_e hF hand, Option.bind_some]
    cases so with
    | false =>
      rw [if_pos (show (if false = true then (1 : Int32) else 0) = 0 by decide)]
      simpa using ihf
    | true =>
      rw [if_neg (show ¬ (if true = true then (1 : Int32) else 0) = 0 by decide)]
      by_cases hm : r (9 + s) = -1
      · rw [if_pos hm, if_pos rfl]
        simpa [hm] using iht
      · rw [if_neg hm, if_neg (by decide)]
        by_cases hc : kk < pop (set &&& kw r s p)
        · rw [if_neg (nI_ge hc (by omega))]
          simpa [hc] using iht
        · rw [if_pos (nI_le (by omega) (by omega))]
          simpa [hm, hc] using ihf
theorem ag_r (hF : 1000 ≤ F) (hr : ∀ i, sp_I M 105 i = r i) (hB : i_BT T r) (hn : r 0 = nI n) (h6 : n ≤ 6) (hp : r 1 = nI p) (hp5 : p ≤ 5) (hk4 : kk ≤ 4) (hset : set < 64) : fX11_areGuarded F M (nI set) (nI kk) = some (if VG r n p kk set then 1 else 0) := by
  have e := gd_r1 (F := F) (kx := fun b10 => (sp_b01 b10).bind fun _ => some b10) hF hr hB hn h6 hp hp5 hk4 hset n 0 F true (by omega) (by omega)
  have e : fX11_areGuarded F M (nI set) (nI kk) = _ := e
  rw [e]
  show _ = some (if gdI r p kk set n 0 then 1 else 0)
  cases gdI r p kk set n 0 <;> rfl
theorem gu_c {kx : Int32 → Option Int32} (hF : 1000 ≤ F) (hR : i_Room M o r) (hB : i_BT T r) (hn : r 0 = nI n) (h6 : n ≤ 6) (hp : r 1 = nI p) (hp5 : p ≤ 5) (hk4 : kk ≤ 4) : ∀ (t k : Nat) (b : Option Nat), t < k → t ≤ 64 → (∀ c, b = some c → c < 64) → fX4_guards_l11 F M o kx k (nI kk) (lsB (-1) b) (nI t - 1) = kx (lsB (-1) (dnC (VG r n p kk) t b)) := by
  intro t
  induction t with
  | zero =>
    intro k b hk ht hb
    obtain ⟨k, rfl⟩ : ∃ m, k = m + 1 := ⟨k - 1, by omega⟩
    unfold fX4_guards_l11
    rw [if_pos (by decide)]
    rfl
  | succ t ih =>
    intro k b hk ht hb
    obtain ⟨k, rfl⟩ : ∃ m, k = m + 1 := ⟨k - 1, by omega⟩
    have hm : nI t + (-1) = nI t - 1 := (Int32.sub_eq_add_neg _ _).symm
    have hpt := pop_le t (by omega)
    rw [nI_pred]
    unfold fX4_guards_l11 fX4_guards_j31 fX4_guards_j36
    rw [if_neg (nI_pos (by omega)), ig_c hF hR hB hn h6 hp hp5 hk4 (by omega), Option.bind_some, hm]
    cases b with
    | none =>
      show _ = kx (lsB (-1) (dnC (VG r n p kk) t (if VG r n p kk t then some t else none)))
      rw [if_pos (show lsB (-1) none = -1 from rfl), if_neg (by decide)]
      cases hv : VG r n p kk t with
      | false => exact ih k none (by omega) (by omega) (fun c h => by cases h)
      | true => exact ih k (some t) (by omega) (by omega) (fun c h => by cases h; omega)
    | some c =>
      have hc := hb c rfl
      have hpc := pop_le c hc
      show _ = kx (lsB (-1) (dnC (VG r n p kk) t (if pop t ≤ pop c then (if VG r n p kk t then some t else some c) else some c)))
      rw [if_neg (show ¬ lsB (-1) (some c) = -1 from nI_m1 (by omega)), show lsB (-1) (some c) = nI c from rfl, pop_c c hc, pop_c t (by omega)]
      by_cases hpp : pop t ≤ pop c
      · rw [if_pos hpp, if_neg (nI_nlt hpp (by omega)), if_neg (by decide)]
        cases hv : VG r n p kk t with
        | false => exact ih k (some c) (by omega) (by omega) (fun c2 h => by cases h; exact hc)
        | true => exact ih k (some t) (by omega) (by omega) (fun c2 h => by cases h; omega)
      · rw [if_neg hpp, if_pos (nI_lt (by omega) (by omega)), if_pos rfl]
        exact ih k (some c) (by omega) (by omega) (fun c2 h => by cases h; exact hc)
theorem gu_r {kx : Int32 → Int32 → Int32 → sp_Mem → Option (Int32 × sp_Mem)} {a2 : Int32} (hF : 1000 ≤ F) (hr : ∀ i, sp_I M 105 i = r i) (hB : i_BT T r) (hn : r 0 = nI n) (h6 : n ≤ 6) (hp : r 1 = nI p) (hp5 : p ≤ 5) (hk4 : kk ≤ 4) : ∀ (m t k : Nat), t + m = 2 ^ p → m < k → fX11_guard_l39 F kx k (nI kk) a2 (lsL (upR (VG r n p kk) t)) (lsB (-1) (upR (VG r n p kk) t)) (nI t) M = kx a2 (lsL (upR (VG r n p kk) (2 ^ p))) (lsB (-1) (upR (VG r n p kk) (2 ^ p))) M := by
  have h64 := p2_6 (show p ≤ 6 by omega)
  intro m
  induction m with
  | zero =>
    intro t k hh hk
    obtain ⟨k, rfl⟩ : ∃ m, k = m + 1 := ⟨k - 1, by omega⟩
    unfold fX11_guard_l39
    rw [hr, hp, sh_e p (by omega), if_pos (nI_le (by omega) (by omega)), show t = 2 ^ p by omega]
  | succ m ih =>
    intro t k hh hk
    obtain ⟨k, rfl⟩ : ∃ m, k = m + 1 := ⟨k - 1, by omega⟩
    have hpt := pop_le t (by omega)
    have := ih (t + 1) k (by omega) (by omega)
    have hgo : ∀ (kb : Int32 → Int32 → Int32 → Int32 → Int32 → sp_Mem → Option (Int32 × sp_Mem)) (a3 a4 : Int32) (b : Bool), fX11_guard_j76 F kb kx (nI kk) a2 a3 a4 (nI t) (if (if b then (1 : Int32) else 0) = 0 then 0 else 1) M = if b then kb (nI kk) a2 (nI (pop t)) (nI t) (nI (t + 1)) M else kb (nI kk) a2 a3 a4 (nI (t + 1)) M := by
      intro kb a3 a4 b
      unfold fX11_guard_j76 fX11_guard_j90
      rw [ones_e hF (by omega), nI_1]
      cases b <;> rfl
    have hgo0 : ∀ (kb : Int32 → Int32 → Int32 → Int32 → Int32 → sp_Mem → Option (Int32 × sp_Mem)) (a3 a4 : Int32), fX11_guard_j75 F kb kx (nI kk) a2 a3 a4 (nI t) M = kb (nI kk) a2 a3 a4 (nI (t + 1)) M := by
      intro kb a3 a4
      unfold fX11_guard_j75 fX11_guard_j76 fX11_guard_j90
      rw [nI_1]
      rfl
    unfold fX11_guard_l39
    rw [hr, hp, sh_e p (by omega), if_neg (nI_ge (by omega) (by omega)), ones_e hF (by omega), Option.bind_some, ag_r hF hr hB hn h6 hp hp5 hk4 (by omega), Option.bind_some, hgo, hgo0]
    cases hu : upR (VG r n p kk) t with
    | none =>
      have hs1 : upR (VG r n p kk) (t + 1) = if VG r n p kk t then some t else none := by
        show (match upR (VG r n p kk) t with | none => if VG r n p kk t then some t else none | some c => if pop t < pop c then (if VG r n p kk t then some t else some c) else some c) = _
        rw [hu]
      rw [hs1] at this
      rw [if_neg (show ¬ lsL none ≤ nI (pop t) from nI_ge (b := 100000000) (by omega) (by omega))]
      cases hv : VG r n p kk t with
      | false => rw [hv] at this; exact this
      | true => rw [hv] at this; exact this
    | some c =>
      have hc : c < t := upR_lt _ hu
      have hpc := pop_le c (by omega)
      have hs1 : upR (VG r n p kk) (t + 1) = if pop t < pop c then (if VG r n p kk t then some t else some c) else some c := by
        show (match upR (VG r n p kk) t with | none => if VG r n p kk t then some t else none | some c => if pop t < pop c then (if VG r n p kk t then some t else some c) else some c) = _
        rw [hu]
      rw [hs1] at this
      by_cases hpp : pop t < pop c
      · rw [if_pos hpp] at this
        rw [if_neg (show ¬ lsL (some c) ≤ nI (pop t) from nI_ge hpp (by omega))]
        cases hv : VG r n p kk t with
        | false => rw [hv] at this; exact this
        | true => rw [hv] at this; exact this
      · rw [if_neg hpp] at this
        rw [if_pos (show lsL (some c) ≤ nI (pop t) from nI_le (by omega) (by omega))]
        exact this
end Guard
/-- guard -/
theorem op_31 {F k : Nat} {M : sp_Mem} (hF : 1000 ≤ F) (hI : Inv k M) (w1 w2 : Int32) : ∃ p, gL_31 F M w1 w2 = some p ∧ Inv (k + 1) p := by
  obtain ⟨lf, n, hC, hX⟩ := Inv_X hF hI
  have h6 := hC.2.2.2.2.2.2.2
  have hR := hC.2.2.2.1
  have hn := hC.2.2.2.2.2.2.1
  have hB := hC.2.2.2.2.1.2
  have X0 := RX_00 hX
  obtain ⟨p, hp5, hp⟩ := bt_p hB
  have h64 := p2_6 (show p ≤ 6 by omega)
  have hpos := Nat.two_pow_pos p
  suffices hx : ∃ v, fX10_guard F M w1 w2 = some v ∧ fX11_guard F M w1 w2 = some (v, sp_setI M 103 0 0) by
    obtain ⟨v, e1, e2⟩ := hx
    exact ⟨_, glue0 e1 e2, Inv_thrown hI⟩
  unfold fX10_guard fX11_guard fX4_guards
  simp only [sp_do, w_in, m_in, n_l, show (0 : Int32).toInt = 0 from rfl, show (1 : Int32).toInt = 1 from rfl, show (4 : Int32).toInt = 4 from rfl, show (0 : Int64).toInt = 0 from rfl, show (1 : Int64).toInt = 1 from rfl, show (4 : Int64).toInt = 4 from rfl]
  by_cases h : 0 ≤ w1.toInt ∧ w1.toInt ≤ 4
  · have hh : ¬ ¬ (0 ≤ w1.toInt ∧ w1.toInt ≤ 4) := fun q => q h
    rw [if_neg hh, if_neg hh]
    by_cases h2 : 0 ≤ w2.toInt ∧ w2.toInt ≤ 1
    · have hh2 : ¬ ¬ (0 ≤ w2.toInt ∧ w2.toInt ≤ 1) := fun q => q h2
      rw [if_neg hh2, if_neg hh2]
      obtain ⟨q, hq, rfl⟩ := n_of (n := 5) h.1 (by omega)
      have e1 := gu_c (F := F) (M := M) (o := 6) (r := rM M) (kx := fun b9 => some b9) hF hR hB hn h6 hp hp5 (show q ≤ 4 by omega) (2 ^ p) F none (by omega) (by omega) (fun c h => by cases h)
      have e2 := gu_r (F := F) (M := sp_setI M 103 0 0) (a2 := w2) (kx := fun b13 b14 b15 M12 => some (if b15 = -1 then b15 else if b13 = 1 then b15 else b14, M12)) hF (RX_r X0) hB hn h6 hp hp5 (show q ≤ 4 by omega) (2 ^ p) 0 F (by omega) (by omega)
      have e1 : fX4_guards_l11 F M 6 (fun b9 => some b9) F (nI q) (-1) (nI (2 ^ p) - 1) = _ := e1
      have e2 : fX11_guard_l39 F _ F (nI q) w2 100000000 (-1) 0 (sp_setI M 103 0 0) = _ := e2
      rw [(rm_p hR).trans hp, sh_e p (by omega), e1, Option.bind_some, e2, dn_up]
      cases hu : upR (VG (rM M) n p q) (2 ^ p) with
      | none => exact ⟨_, rfl, rfl⟩
      | some d =>
        have hd : d < 64 := by have := upR_lt _ hu; omega
        have hnm : ¬ nI d = -1 := nI_m1 (by omega)
        rw [show lsB (-1) (some d) = nI d from rfl, if_neg hnm, if_neg hnm]
        refine ⟨_, rfl, ?_⟩
        unfold fX10_numberOrBits
        rw [pop_c d hd]
        have : w2 = 0 ∨ w2 = 1 := by
          rw [n_eq, n_eq, show (0 : Int32).toInt = 0 from rfl, show (1 : Int32).toInt = 1 from rfl]; omega
        rcases this with rfl | rfl
        · rfl
        · rfl
    · rw [if_pos h2, if_pos h2]
      exact ⟨_, rfl, rfl⟩
  · rw [if_pos h, if_pos h]
    exact ⟨_, rfl, rfl⟩
