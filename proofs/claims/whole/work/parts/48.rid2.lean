/-! ===== alike, anew, guard ===== -/
def alk (r : Nat → Int32) (s o : Nat) : Bool := decide (r (51 + s) / 10 = r (51 + o) / 10 ∨ r (51 + s) - r (51 + s) / 10 * 10 = r (51 + o) - r (51 + o) / 10 * 10)
theorem alk_c (r : Nat → Int32) (s o : Nat) : fX4_areAlike (r (51 + s)) (r (51 + o)) = some (if alk r s o then 1 else 0) := by
  unfold fX4_areAlike alk
  by_cases h1 : r (51 + s) / 10 = r (51 + o) / 10
  · rw [if_pos h1]; simp [h1]
  · rw [if_neg h1]; simp [h1]
theorem alk_r {M : sp_Mem} {r : Nat → Int32} {s o : Nat} (hr : ∀ i, sp_I M 105 i = r i) (hs : s < 6) (ho : o < 6) : fX11_areAlike M (nI s) (nI o) = some (if alk r s o then 1 else 0) := by
  unfold fX11_areAlike alk
  simp only [show (51 : Int32) + nI s = nI (51 + s) from nI_add 51 s, show (51 : Int32) + nI o = nI (51 + o) from nI_add 51 o, sp_ix_nI (show 51 + s < 5480 by omega) (by omega), sp_ix_nI (show 51 + o < 5480 by omega) (by omega), Option.bind_some, hr]
  by_cases h1 : r (51 + s) / 10 = r (51 + o) / 10
  · rw [if_pos h1]; simp [h1]
  · rw [if_neg h1]; simp [h1]
/-- what one two does: how many there were, which one it was -/
def alX (r : Nat → Int32) (a1 : Int32) (s h : Nat) (st : Nat × Int32) : Nat × Int32 := if alk r s h then (st.1 + 1, if nI st.1 = a1 then nI (10 * s + h) else st.2) else st
def alI (r : Nat → Int32) (a1 : Int32) (s : Nat) : Nat → Nat → Nat × Int32 → Nat × Int32
  | 0, _, st => st
  | m + 1, h, st => alI r a1 s m (h + 1) (alX r a1 s h st)
def alO (r : Nat → Int32) (a1 : Int32) (n : Nat) : Nat → Nat → Nat × Int32 → Nat × Int32
  | 0, _, st => st
  | m + 1, s, st => alO r a1 n m (s + 1) (alI r a1 s (n - (s + 1)) (s + 1) st)
section Alike
variable {F o n : Nat} {M : sp_Mem} {r : Nat → Int32} {T : Int} {a1 : Int32}
theorem alI_le (s : Nat) : ∀ (m h : Nat) (st : Nat × Int32), st.1 ≤ (alI r a1 s m h st).1 ∧ (alI r a1 s m h st).1 ≤ st.1 + m
  | 0, h, st => ⟨Nat.le_refl _, Nat.le_refl _⟩
  | m + 1, h, st => by
    have := alI_le s m (h + 1) (alX r a1 s h st)
    have h2 : st.1 ≤ (alX r a1 s h st).1 ∧ (alX r a1 s h st).1 ≤ st.1 + 1 := by
      unfold alX
      split
      · exact ⟨Nat.le_succ _, Nat.le_refl _⟩
      · exact ⟨Nat.le_refl _, Nat.le_succ _⟩
    show st.1 ≤ (alI r a1 s m (h + 1) (alX r a1 s h st)).1 ∧ (alI r a1 s m (h + 1) (alX r a1 s h st)).1 ≤ st.1 + (m + 1)
    omega
theorem alI_kp (s : Nat) : ∀ (m h : Nat) (st : Nat × Int32), (∀ c, st.1 ≤ c → c < st.1 + m → nI c ≠ a1) → (alI r a1 s m h st).2 = st.2
  | 0, h, st, _ => rfl
  | m + 1, h, st, hc => by
    show (alI r a1 s m (h + 1) (alX r a1 s h st)).2 = st.2
    have h2 : st.1 ≤ (alX r a1 s h st).1 ∧ (alX r a1 s h st).1 ≤ st.1 + 1 ∧ (alX r a1 s h st).2 = st.2 := by
      unfold alX
      split
      · exact ⟨Nat.le_succ _, Nat.le_refl _, if_neg (hc st.1 (Nat.le_refl _) (by omega))⟩
      · exact ⟨Nat.le_refl _, Nat.le_succ _, rfl⟩
    rw [alI_kp s m (h + 1) _ (fun c h3 h4 => hc c (by omega) (by omega)), h2.2.2]
theorem alO_kp : ∀ (m s : Nat) (st : Nat × Int32), (∀ c, st.1 ≤ c → c < st.1 + m * n → nI c ≠ a1) → (alO r a1 n m s st).2 = st.2
  | 0, s, st, _ => rfl
  | m + 1, s, st, hc => by
    show (alO r a1 n m (s + 1) (alI r a1 s (n - (s + 1)) (s + 1) st)).2 = st.2
    have hle := alI_le (r := r) (a1 := a1) s (n - (s + 1)) (s + 1) st
    have hm : (m + 1) * n = m * n + n := Nat.succ_mul m n
    rw [alO_kp m (s + 1) _ (fun c h3 h4 => hc c (by omega) (by omega)), alI_kp s _ _ _ (fun c h3 h4 => hc c (by omega) (by
      have : 0 ≤ m * n := Nat.zero_le _
      omega))]
theorem al_r1 {kx : Int32 → Int32 → Int32 → Int32 → sp_Mem → Option (Int32 × sp_Mem)} (hr : ∀ i, sp_I M 105 i = r i) (hn : r 0 = nI n) (h6 : n ≤ 6) {s : Nat} (hs : s < n) : ∀ (m h k : Nat) (st : Nat × Int32), h + m = n → m < k → fX11_alike_l29 F kx k a1 (nI st.1) st.2 (nI s) (nI h) M = kx a1 (nI (alI r a1 s m h st).1) (alI r a1 s m h st).2 (nI s) M := by
  intro m
  induction m with
  | zero =>
    intro h k st hh hk
    obtain ⟨k, rfl⟩ : ∃ m, k = m + 1 := ⟨k - 1, by omega⟩
    unfold fX11_alike_l29
    rw [hr, hn, if_pos (nI_le (by omega) (by omega))]
    rfl
  | succ m ih =>
    intro h k st hh hk
    obtain ⟨k, rfl⟩ : ∃ m, k = m + 1 := ⟨k - 1, by omega⟩
    have := ih (h + 1) k (alX r a1 s h st) (by omega) (by omega)
    have e10 : (10 : Int32) * nI s + nI h = nI (10 * s + h) := by rw [show (10 : Int32) * nI s = nI (10 * s) from nI_mul 10 s, nI_add]
    unfold fX11_alike_l29
    simp only [sp_do]
    rw [hr, hn, if_neg (nI_ge (by omega) (by omega)), alk_r hr (by omega) (by omega), Option.bind_some, nI_1, nI_1, e10]
    show _ = kx a1 (nI (alI r a1 s m (h + 1) (alX r a1 s h st)).1) (alI r a1 s m (h + 1) (alX r a1 s h st)).2 (nI s) M
    rw [← this]
    unfold alX
    cases alk r s h with
    | false => rfl
    | true =>
      rw [if_pos rfl, if_neg (by decide), if_pos rfl]
      by_cases hc : nI st.1 = a1
      · rw [if_pos hc, if_pos hc]
      · rw [if_neg hc, if_neg hc]
theorem al_r {kx : Int32 → Int32 → Int32 → sp_Mem → Option (Int32 × sp_Mem)} (hF : 1000 ≤ F) (hr : ∀ i, sp_I M 105 i = r i) (hn : r 0 = nI n) (h6 : n ≤ 6) : ∀ (m s k : Nat) (st : Nat × Int32), s + m = n → m < k → fX11_alike_l12 F kx k a1 (nI st.1) st.2 (nI s) M = kx a1 (nI (alO r a1 n m s st).1) (alO r a1 n m s st).2 M := by
  intro m
  induction m with
  | zero =>
    intro s k st hh hk
    obtain ⟨k, rfl⟩ : ∃ m, k = m + 1 := ⟨k - 1, by omega⟩
    unfold fX11_alike_l12
    rw [hr, hn, if_pos (nI_le (by omega) (by omega))]
    rfl
  | succ m ih =>
    intro s k st hh hk
    obtain ⟨k, rfl⟩ : ∃ m, k = m + 1 := ⟨k - 1, by omega⟩
    have := ih (s + 1) k (alI r a1 s (n - (s + 1)) (s + 1) st) (by omega) (by omega)
    unfold fX11_alike_l12
    rw [hr, hn, if_neg (nI_ge (by omega) (by omega)), nI_1, al_r1 hr hn h6 (by omega) (n - (s + 1)) (s + 1) F st (by omega) (by omega), nI_1]
    exact this
/-- the class goes out at the one that was asked for -/
theorem al_c1 {kx : Int32 → Int32 → Int32 → Option Int32} (hR : i_Room M o r) (hn : r 0 = nI n) (h6 : n ≤ 6) {s : Nat} (hs : s < n) : ∀ (m h k c : Nat), h + m = n → m < k → c + m < 1000 → fX4_alikeTwo_l17 F M o kx k a1 (nI c) (nI s) (nI h) = (if (alI r a1 s m h (c, -1)).2 = -1 then kx a1 (nI (alI r a1 s m h (c, -1)).1) (nI s) else some (alI r a1 s m h (c, -1)).2) ∧ ((alI r a1 s m h (c, -1)).2 ≠ -1 → ∃ c0, c0 < (alI r a1 s m h (c, -1)).1 ∧ nI c0 = a1) := by
  intro m
  induction m with
  | zero =>
    intro h k c hh hk hc
    obtain ⟨k, rfl⟩ : ∃ m, k = m + 1 := ⟨k - 1, by omega⟩
    refine ⟨?_, fun h => absurd rfl h⟩
    unfold fX4_alikeTwo_l17
    rw [rm_s hR, hn, if_pos (nI_le (by omega) (by omega))]
    exact (if_pos rfl).symm
  | succ m ih =>
    intro h k c hh hk hc
    obtain ⟨k, rfl⟩ : ∃ m, k = m + 1 := ⟨k - 1, by omega⟩
    have e10 : nI s * 10 + nI h = nI (10 * s + h) := by rw [show nI s * (10 : Int32) = nI (s * 10) from nI_mul s 10, nI_add, Nat.mul_comm]
    have hst : alI r a1 s (m + 1) h (c, -1) = alI r a1 s m (h + 1) (alX r a1 s h (c, -1)) := rfl
    rw [hst]
    unfold fX4_alikeTwo_l17
    rw [rm_s hR, hn, if_neg (nI_ge (by omega) (by omega)), sp_ix_nI (show s < 6 by omega) (by omega), Option.bind_some, sp_ix_nI (show h < 6 by omega) (by omega), Option.bind_some, rm_name hR (show s < 6 by omega), rm_name hR (show h < 6 by omega), alk_c, Option.bind_some, nI_1, nI_1, e10]
    cases ha : alk r s h with
    | false =>
      have hx : alX r a1 s h (c, -1) = (c, -1) := by unfold alX; rw [ha]; rfl
      rw [hx, if_pos (show (if false = true then (1 : Int32) else 0) = 0 by decide)]
      exact ih (h + 1) k c (by omega) (by omega) (by omega)
    | true =>
      rw [if_neg (show ¬ (if true = true then (1 : Int32) else 0) = 0 by decide)]
      by_cases hq : nI c = a1
      · have hx : alX r a1 s h (c, -1) = (c + 1, nI (10 * s + h)) := by
          unfold alX; rw [ha, if_pos rfl]; show (c + 1, if nI c = a1 then _ else _) = _; rw [if_pos hq]
        have hk2 : (alI r a1 s m (h + 1) (c + 1, nI (10 * s + h))).2 = nI (10 * s + h) := by
          rw [alI_kp s m (h + 1) _ (fun c2 h3 h4 => ?_)]
          rw [← hq]
          dsimp only at h3 h4
          rw [ne_eq, nI_eq (by omega) (by omega)]
          omega
        have hle := (alI_le (r := r) (a1 := a1) s m (h + 1) (c + 1, nI (10 * s + h))).1
        rw [hx, hk2, if_pos hq, if_neg (nI_m1 (by omega))]
        exact ⟨rfl, fun _ => ⟨c, by dsimp only at hle; omega, hq⟩⟩
      · have hx : alX r a1 s h (c, -1) = (c + 1, -1) := by
          unfold alX; rw [ha, if_pos rfl]; show (c + 1, if nI c = a1 then _ else _) = _; rw [if_neg hq]
        rw [hx, if_neg hq]
        exact ih (h + 1) k (c + 1) (by omega) (by omega) (by omega)
theorem al_c {kx : Int32 → Int32 → Option Int32} (hF : 1000 ≤ F) (hR : i_Room M o r) (hn : r 0 = nI n) (h6 : n ≤ 6) : ∀ (m s k c : Nat), s + m = n → m < k → c + m * n < 500 → fX4_alikeTwo_l4 F M o kx k a1 (nI c) (nI s) = (if (alO r a1 n m s (c, -1)).2 = -1 then kx a1 (nI (alO r a1 n m s (c, -1)).1) else some (alO r a1 n m s (c, -1)).2) := by
  intro m
  induction m with
  | zero =>
    intro s k c hh hk hc
    obtain ⟨k, rfl⟩ : ∃ m, k = m + 1 := ⟨k - 1, by omega⟩
    unfold fX4_alikeTwo_l4
    rw [rm_s hR, hn, if_pos (nI_le (by omega) (by omega))]
    exact (if_pos rfl).symm
  | succ m ih =>
    intro s k c hh hk hc
    obtain ⟨k, rfl⟩ : ∃ m, k = m + 1 := ⟨k - 1, by omega⟩
    have hm : (m + 1) * n = m * n + n := Nat.succ_mul m n
    have hst : alO r a1 n (m + 1) s (c, -1) = alO r a1 n m (s + 1) (alI r a1 s (n - (s + 1)) (s + 1) (c, -1)) := rfl
    obtain ⟨e1, e2⟩ := al_c1 (F := F) (M := M) (o := o) (r := r) (a1 := a1) (kx := fun b9 b10 b11 => fX4_alikeTwo_l4 F M o kx k b9 b10 (b11 + 1)) hR hn h6 (show s < n by omega) (n - (s + 1)) (s + 1) F c (by omega) (by omega) (by omega)
    have hle := alI_le (r := r) (a1 := a1) s (n - (s + 1)) (s + 1) (c, -1)
    rw [hst]
    unfold fX4_alikeTwo_l4
    rw [rm_s hR, hn, if_neg (nI_ge (by omega) (by omega)), nI_1, e1]
    generalize hg : alI r a1 s (n - (s + 1)) (s + 1) (c, -1) = st at hle e2 ⊢
    obtain ⟨c1, v1⟩ := st
    dsimp only at hle e2 ⊢
    by_cases hv : v1 = -1
    · rw [if_pos hv, hv, nI_1]
      exact ih (s + 1) k c1 (by omega) (by omega) (by omega)
    · obtain ⟨c0, h1, h2⟩ := e2 hv
      have : (alO r a1 n m (s + 1) (c1, v1)).2 = v1 := alO_kp m (s + 1) (c1, v1) (fun c2 h3 h4 => by
        dsimp only at h3 h4
        rw [← h2, ne_eq, nI_eq (by omega) (by omega)]
        omega)
      rw [if_neg hv, this, if_neg hv]
end Alike
/-- alike -/
theorem op_29 {F k : Nat} {M : sp_Mem} (hF : 1000 ≤ F) (hI : Inv k M) (w1 : Int32) : ∃ p, gL_29 F M w1 = some p ∧ Inv (k + 1) p := by
  obtain ⟨lf, n, hC, hX⟩ := Inv_X hF hI
  have h6 := hC.2.2.2.2.2.2.2
  have hR := hC.2.2.2.1
  have hn := hC.2.2.2.2.2.2.1
  have X0 := RX_00 hX
  have hnn : n * n ≤ 36 := Nat.mul_le_mul h6 h6
  suffices hx : ∃ v, fX10_alike F M w1 = some v ∧ fX11_alike F M w1 = some (v, sp_setI M 103 0 0) by
    obtain ⟨v, e1, e2⟩ := hx
    exact ⟨_, glue0 e1 e2, Inv_thrown hI⟩
  have e2 := al_r (F := F) (a1 := w1) (M := sp_setI M 103 0 0) (kx := fun b14 b15 b16 M13 => some (if b14 = -1 then b15 else b16, M13)) hF (RX_r X0) hn h6 n 0 F (0, -1) (by omega) (by omega)
  have e2 : fX11_alike F M w1 = some (if w1 = -1 then nI (alO (rM M) w1 n n 0 (0, -1)).1 else (alO (rM M) w1 n n 0 (0, -1)).2, sp_setI M 103 0 0) := e2
  rw [e2]
  unfold fX10_alike
  by_cases h : w1 < -1
  · rw [if_pos h]
    refine ⟨-1, rfl, ?_⟩
    rw [n_lt, show (-1 : Int32).toInt = -1 from rfl] at h
    have hne : ¬ w1 = -1 := by rw [n_eq, show (-1 : Int32).toInt = -1 from rfl]; omega
    have := alO_kp (r := rM M) (a1 := w1) (n := n) n 0 (0, -1) (fun c h3 h4 => by
      dsimp only at h3 h4
      intro q
      rw [← q, nI_toInt (by omega)] at h
      omega)
    rw [if_neg hne, this]
  · rw [if_neg h]
    have e1 := al_c (F := F) (M := M) (o := 6) (r := rM M) (a1 := w1) (kx := fun b13 b14 => some (if b13 = -1 then b14 else -1)) hF hR hn h6 n 0 F 0 (by omega) (by omega) (by omega)
    have e1 : fX4_alikeTwo F M 6 w1 = _ := e1
    rw [e1]
    generalize hg : alO (rM M) w1 n n 0 (0, -1) = st
    by_cases hm : w1 = -1
    · have : (alO (rM M) w1 n n 0 (0, -1)).2 = -1 := alO_kp n 0 (0, -1) (fun c h3 h4 => by
        dsimp only at h3 h4
        rw [hm]; exact nI_m1 (by omega))
      rw [hg] at this
      rw [if_pos this, if_pos hm]
      exact ⟨_, rfl, by rw [if_pos hm]⟩
    · rw [if_neg hm]
      by_cases hv : st.2 = -1
      · rw [if_pos hv, if_neg hm]; exact ⟨_, rfl, by rw [hv]⟩
      · rw [if_neg hv]; exact ⟨_, rfl, by rw [if_neg hm]⟩
/-! the least set: from above, and from below -/
def dnC (V : Nat → Bool) : Nat → Option Nat → Option Nat
  | 0, b => b
  | t + 1, b => dnC V t (match b with
    | none => if V t then some t else none
    | some c => if pop t ≤ pop c then (if V t then some t else some c) else some c)
def upR (V : Nat → Bool) : Nat → Option Nat
  | 0 => none
  | t + 1 => match upR V t with
    | none => if V t then some t else none
    | some c => if pop t < pop c then (if V t then some t else some c) else some c
/-- the least of those from a up to b -/
def Lst (V : Nat → Bool) (a b : Nat) (x : Option Nat) : Prop := match x with
  | none => ∀ t, a ≤ t → t < b → V t = false
  | some c => a ≤ c ∧ c < b ∧ V c = true ∧ ∀ t, a ≤ t → t < b → V t = true → pop c < pop t ∨ (pop c = pop t ∧ c ≤ t)
theorem Lst_u {V : Nat → Bool} {a b : Nat} {x y : Option Nat} (h1 : Lst V a b x) (h2 : Lst V a b y) : x = y := by
  cases x with
  | none =>
    cases y with
    | none => rfl
    | some d => have := h1 d h2.1 h2.2.1; rw [h2.2.2.1] at this; cases this
  | some c =>
    cases y with
    | none => have := h2 c h1.1 h1.2.1; rw [h1.2.2.1] at this; cases this
    | some d =>
      have a1 := h1.2.2.2 d h2.1 h2.2.1 h2.2.2.1
      have a2 := h2.2.2.2 c h1.1 h1.2.1 h1.2.2.1
      congr 1
      omega
theorem upR_L (V : Nat → Bool) : ∀ b, Lst V 0 b (upR V b)
  | 0 => fun t _ h => by omega
  | t + 1 => by
    have ih := upR_L V t
    show Lst V 0 (t + 1) (match upR V t with
      | none => if V t then some t else none
      | some c => if pop t < pop c then (if V t then some t else some c) else some c)
    cases hu : upR V t with
    | none =>
      rw [hu] at ih
      dsimp only
      cases hv : V t with
      | false =>
        intro x h1 h2
        by_cases hx : x = t
        · rw [hx, hv]
        · exact ih x h1 (by omega)
      | true =>
        refine ⟨Nat.zero_le _, by omega, hv, fun x h1 h2 h3 => ?_⟩
        by_cases hx : x = t
        · rw [hx]; omega
        · have := ih x h1 (by omega); rw [h3] at this; cases this
    | some c =>
      rw [hu] at ih
      obtain ⟨i1, i2, i3, i4⟩ := ih
      dsimp only
      by_cases hp : pop t < pop c
      · rw [if_pos hp]
        cases hv : V t with
        | false =>
          refine ⟨i1, by omega, i3, fun x h1 h2 h3 => ?_⟩
          by_cases hx : x = t
          · rw [hx, hv] at h3; cases h3
          · exact i4 x h1 (by omega) h3
        | true =>
          refine ⟨Nat.zero_le _, by omega, hv, fun x h1 h2 h3 => ?_⟩
          by_cases hx : x = t
          · rw [hx]; omega
          · have := i4 x h1 (by omega) h3; omega
      · rw [if_neg hp]
        refine ⟨i1, by omega, i3, fun x h1 h2 h3 => ?_⟩
        by_cases hx : x = t
        · rw [hx]; omega
        · exact i4 x h1 (by omega) h3
theorem dnC_L (V : Nat → Bool) (N : Nat) : ∀ t b, t ≤ N → Lst V t N b → Lst V 0 N (dnC V t b)
  | 0, b, _, h => h
  | t + 1, b, ht, h => by
    refine dnC_L V N t _ (by omega) ?_
    cases b with
    | none =>
      dsimp only
      cases hv : V t with
      | false =>
        intro x h1 h2
        by_cases hx : x = t
        · rw [hx, hv]
        · exact h x (by omega) h2
      | true =>
        refine ⟨Nat.le_refl _, by omega, hv, fun x h1 h2 h3 => ?_⟩
        by_cases hx : x = t
        · rw [hx]; omega
        · have := h x (by omega) h2; rw [h3] at this; cases this
    | some c =>
      obtain ⟨i1, i2, i3, i4⟩ := h
      dsimp only
      by_cases hp : pop t ≤ pop c
      · rw [if_pos hp]
        cases hv : V t with
        | false =>
          refine ⟨by omega, i2, i3, fun x h1 h2 h3 => ?_⟩
          by_cases hx : x = t
          · rw [hx, hv] at h3; cases h3
          · exact i4 x (by omega) h2 h3
        | true =>
          refine ⟨Nat.le_refl _, by omega, hv, fun x h1 h2 h3 => ?_⟩
          by_cases hx : x = t
          · rw [hx]; omega
          · have := i4 x (by omega) h2 h3; omega
      · rw [if_neg hp]
        refine ⟨by omega, i2, i3, fun x h1 h2 h3 => ?_⟩
        by_cases hx : x = t
        · rw [hx]; omega
        · exact i4 x (by omega) h2 h3
theorem dn_up (V : Nat → Bool) (N : Nat) : dnC V N none = upR V N := Lst_u (dnC_L V N N none (Nat.le_refl N) (fun t h1 h2 => by omega)) (upR_L V N)
theorem upR_lt (V : Nat → Bool) {b c : Nat} (h : upR V b = some c) : c < b := by
  have := upR_L V b
  rw [h] at this
  exact this.2.1
theorem dnC_lt (V : Nat → Bool) {N : Nat} : ∀ t b, t ≤ N → (∀ c, b = some c → c < N) → ∀ c, dnC V t b = some c → c < N
  | 0, b, _, h, c, hc => h c hc
  | t + 1, b, ht, h, c, hc => by
    refine dnC_lt V t _ (by omega) ?_ c hc
    intro c2 hc2
    cases b with
    | none =>
      dsimp only at hc2
      split at hc2
      · cases hc2; omega
      · cases hc2
    | some d =>
      dsimp only at hc2
      have hd := h d rfl
      split at hc2
      · split at hc2
        · cases hc2; omega
        · cases hc2; exact hd
      · cases hc2; exact hd
