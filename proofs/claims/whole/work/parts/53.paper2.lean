/-! ===== first ===== -/
def spA (r : Nat → Int32) (c : Int32) : Nat → Nat → Int32
  | 0, _ => -1
  | m + 1, s => if r (9 + s) = c then nI s else spA r c m (s + 1)
section First
variable {F o n : Nat} {M : sp_Mem} {r : Nat → Int32} {lf : Option (List ev_C)} {T : Int} {c : Int32}
theorem so_c (hR : i_Room M o r) (hn : r 0 = nI n) (h6 : n ≤ 6) : ∀ (m s k : Nat), s + m = n → m < k → fX5_sparkOn_l2 F M o (some (-1)) k c (nI s) = some (spA r c m s) := by
  intro m
  induction m with
  | zero =>
    intro s k hs hk
    obtain ⟨k, rfl⟩ : ∃ m, k = m + 1 := ⟨k - 1, by omega⟩
    unfold fX5_sparkOn_l2
    rw [rm_s hR, hn, if_pos (nI_le (by omega) (by omega))]
    rfl
  | succ m ih =>
    intro s k hs hk
    obtain ⟨k, rfl⟩ : ∃ m, k = m + 1 := ⟨k - 1, by omega⟩
    unfold fX5_sparkOn_l2
    rw [rm_s hR, hn, if_neg (nI_ge (by omega) (by omega)), sp_ix_nI (show s < 6 by omega) (by omega), Option.bind_some, rm_cell hR (show s < 6 by omega), nI_1, ih (s + 1) k (by omega) (by omega)]
    show _ = some (if r (9 + s) = c then nI s else spA r c m (s + 1))
    split <;> rfl
theorem sparkOn_c (hF : 1000 ≤ F) (hR : i_Room M o r) (hn : r 0 = nI n) (h6 : n ≤ 6) : fX5_sparkOn F M o c = some (spA r c n 0) := so_c hR hn h6 n 0 F (by omega) (by omega)
theorem sa_r {kx : Int32 → Option Int32} (hr : ∀ i, sp_I M 105 i = r i) (h6 : n ≤ 6) : ∀ (t k : Nat), t ≤ n → t < k → fX11_sparkAt_l11 F M kx k c (spA r c (n - t) t) (nI t - 1) = kx (spA r c n 0) := by
  intro t
  induction t with
  | zero =>
    intro k ht hk
    obtain ⟨k, rfl⟩ : ∃ m, k = m + 1 := ⟨k - 1, by omega⟩
    unfold fX11_sparkAt_l11
    rw [if_pos (by decide)]
    rfl
  | succ t ih =>
    intro k ht hk
    obtain ⟨k, rfl⟩ : ∃ m, k = m + 1 := ⟨k - 1, by omega⟩
    have hm : nI t + (-1) = nI t - 1 := (Int32.sub_eq_add_neg _ _).symm
    have := ih k (by omega) (by omega)
    rw [show n - t = (n - (t + 1)) + 1 by omega] at this
    unfold fX11_sparkAt_l11
    simp only [sp_do]
    rw [nI_pred, if_neg (nI_pos (by omega)), show (9 : Int32) + nI t = nI (9 + t) from nI_add 9 t, sp_ix_nI (show 9 + t < 5480 by omega) (by omega), Option.bind_some, hr, hm]
    exact this
theorem sparkAt_r (hF : 1000 ≤ F) (hr : ∀ i, sp_I M 105 i = r i) (hn : r 0 = nI n) (h6 : n ≤ 6) : fX11_sparkAt F M c = some (spA r c n 0) := by
  unfold fX11_sparkAt
  simp only [sp_do]
  rw [hr, hn]
  have := sa_r (F := F) (c := c) (kx := fun b7 => some b7) hr h6 n F (Nat.le_refl n) (by omega)
  rw [Nat.sub_self] at this
  exact this
/-- the first MINUTE of those from i on at which one is there -/
def ffi (lf : Option (List ev_C)) (r : Nat → Int32) (n : Nat) (c : Int32) : Nat → Nat → Nat
  | 0, i => i
  | m + 1, i => if spA (itR lf r 0 n i) c n 0 = -1 then ffi lf r n c m (i + 1) else i
theorem ffi_le : ∀ m i, ffi lf r n c m i ≤ i + m
  | 0, i => Nat.le_refl _
  | m + 1, i => by
    show (if spA (itR lf r 0 n i) c n 0 = -1 then ffi lf r n c m (i + 1) else i) ≤ i + (m + 1)
    have := ffi_le m (i + 1)
    split <;> omega
theorem fi_c {o1 : Nat} {a3 : Int32} (hF : 1000 ≤ F) (hT : T ≤ 1000) (hn : r 0 = nI n) (h6 : n ≤ 6) : ∀ (m i k : Nat) (M : sp_Mem), i + m = 61 → m < k → CX F M 78 (itR lf r 0 n i) lf n (T + i) → sp_WS M → ∃ M', fX1_firstOn_l11 F o1 (fun M7 => some (-1, M7)) k c a3 (nI i) M = some (if ffi lf r n c m i = 61 then -1 else (if a3 = 0 then nI (ffi lf r n c m i) else spA (itR lf r 0 n (ffi lf r n c m i)) c n 0), M') ∧ sp_WS M' := by
  intro m
  induction m with
  | zero =>
    intro i k M hi hk h hw
    obtain ⟨k, rfl⟩ : ∃ m, k = m + 1 := ⟨k - 1, by omega⟩
    refine ⟨M, ?_, hw⟩
    unfold fX1_firstOn_l11
    rw [if_pos (show (60 : Int32) < nI i from nI_lt (a := 60) (by omega) (by omega)), if_pos (show ffi lf r n c 0 i = 61 by show i = 61; omega)]
  | succ m ih =>
    intro i k M hi hk h hw
    obtain ⟨k, rfl⟩ : ∃ m, k = m + 1 := ⟨k - 1, by omega⟩
    have hs := sparkOn_c (c := c) hF h.2.2.2.1 h.2.2.2.2.2.2.1 h6
    have hm4 : sp_I M 78 4 = nI n := (rm_s h.2.2.2.1).trans h.2.2.2.2.2.2.1
    rw [show ffi lf r n c (m + 1) i = if spA (itR lf r 0 n i) c n 0 = -1 then ffi lf r n c m (i + 1) else i from rfl]
    unfold fX1_firstOn_l11
    rw [if_neg (show ¬ (60 : Int32) < nI i from nI_nlt (a := 60) (by omega) (by omega)), hs, Option.bind_some]
    by_cases hv : spA (itR lf r 0 n i) c n 0 = -1
    · obtain ⟨M1, e1, e2⟩ := pass_c (a := 0) (b := n) h (by omega) (by omega) (Nat.le_refl n)
      have e1 : fX6_passMinute F M 78 0 (nI n - 1) = some M1 := e1
      have hw1 := WS_fr0 (frX6_passMinute e1) (by decide +kernel) (by decide +kernel) hw
      obtain ⟨M2, f1, f2⟩ := ih (i + 1) k M1 (by omega) (by omega) (by
        have : T + ((i + 1 : Nat) : Int) = T + i + 1 := by omega
        rw [this]; exact e2) hw1
      refine ⟨M2, ?_, f2⟩
      rw [if_pos hv, if_pos hv, hm4, e1, Option.bind_some, nI_1]
      exact f1
    · refine ⟨M, ?_, hw⟩
      rw [if_neg hv, if_neg hv, if_neg (show ¬ i = 61 by omega)]
theorem fi_r {kx : Int32 → Int32 → Int32 → sp_Mem → Option (Int32 × sp_Mem)} {a2 : Int32} (hF : 1000 ≤ F) (hT : T ≤ 1000) (h6 : n ≤ 6) : ∀ (m i k : Nat) (M : sp_Mem), i + m = 61 → m < k → RX F M (itR lf r 0 n i) lf n (T + i) → ∃ M', fX11_first_l32 F kx k c a2 (nI i) M = kx c a2 (nI (ffi lf r n c m i)) M' ∧ RX F M' (itR lf r 0 n (ffi lf r n c m i)) lf n (T + (ffi lf r n c m i)) ∧ sp_fr [124, 121, 123, 105, 125] [(103, 34), (103, 38), (103, 39), (103, 40)] M M' := by
  intro m
  induction m with
  | zero =>
    intro i k M hi hk h
    obtain ⟨k, rfl⟩ : ∃ m, k = m + 1 := ⟨k - 1, by omega⟩
    refine ⟨M, ?_, h, sp_fr.refl _ _ _⟩
    unfold fX11_first_l32
    rw [if_pos (show (61 : Int32) ≤ nI i from nI_le (a := 61) (by omega) (by omega))]
    rfl
  | succ m ih =>
    intro i k M hi hk h
    obtain ⟨k, rfl⟩ : ∃ m, k = m + 1 := ⟨k - 1, by omega⟩
    have hs := sparkAt_r (c := c) hF (RX_r h) h.2.2.2.2.2.1 h6
    rw [show ffi lf r n c (m + 1) i = if spA (itR lf r 0 n i) c n 0 = -1 then ffi lf r n c m (i + 1) else i from rfl]
    unfold fX11_first_l32
    rw [if_neg (show ¬ (61 : Int32) ≤ nI i from nI_ge (b := 61) (by omega) (by omega)), hs, Option.bind_some]
    by_cases hv : spA (itR lf r 0 n i) c n 0 = -1
    · obtain ⟨M1, e1, e2⟩ := pass_r h (by omega)
      obtain ⟨M2, f1, f2, f3⟩ := ih (i + 1) k M1 (by omega) (by omega) (by
        have : T + ((i + 1 : Nat) : Int) = T + i + 1 := by omega
        rw [this]; exact e2)
      rw [if_pos hv, if_pos hv, e1, Option.bind_some, nI_1]
      exact ⟨M2, f1, f2, (frX11_passIt e1).tr f3⟩
    · rw [if_neg hv, if_neg hv]
      exact ⟨M, rfl, h, sp_fr.refl _ _ _⟩
end First
/-- first -/
theorem op_23 {F k : Nat} {M : sp_Mem} (hF : 1000 ≤ F) (hI : Inv k M) (w1 w2 : Int32) : ∃ p, gL_23 F M w1 w2 = some p ∧ Inv (k + 1) p := by
  obtain ⟨lf, n, hC, hX⟩ := Inv_X hF hI
  have h6 := hC.2.2.2.2.2.2.2
  have hR := hC.2.2.2.1
  have hn := hC.2.2.2.2.2.2.1
  have hw := hI.1
  by_cases hc : 0 ≤ w1.toInt ∧ w1.toInt < 25
  · by_cases h2 : 0 ≤ w2.toInt ∧ w2.toInt ≤ 1
    · obtain ⟨A, a1, a2, a3, a4, a5⟩ := copy_CX (o0 := 78) hC (by omega) (by omega) (by omega) (by unfold sp_room; simp) (by unfold sp_room; simp)
      obtain ⟨A2, b1, b3⟩ := fi_c (F := F) (o1 := 6) (c := w1) (a3 := w2) hF (show (999 : Int) ≤ 1000 by decide) hn h6 61 0 F A (by omega) (by omega) (by
        show CX F A 78 (rM M) lf n (999 + ((0 : Nat) : Int))
        rw [show (999 : Int) + ((0 : Nat) : Int) = 999 by omega]; exact a2) (a3 hw)
      have hle := ffi_le (lf := lf) (r := rM M) (n := n) (c := w1) 61 0
      generalize hj : ffi lf (rM M) n w1 61 0 = j at b1 hle
      have e1 : fX10_first F M w1 w2 = some (if j = 61 then -1 else (if w2 = 0 then nI j else spA (itR lf (rM M) 0 n j) w1 n 0), A2) := by
        have b1 : fX1_firstOn_l11 F 6 _ F w1 w2 0 A = _ := b1
        unfold fX10_first fX1_firstOn
        rw [if_neg (by rw [w_cell]; exact fun c => c hc), if_neg (by rw [w_in]; exact fun c => c h2), a1, Option.bind_some, b1]
        rfl
      have f1 := frX10_first e1
      have hr1 : rM A2 = rM M := funext fun j => f1.1 105 j (by decide) (by simp)
      have X1 : RX F (sp_setI A2 103 0 0) (rM M) lf n 999 := RX_of hX (by rw [I_nf _ _ _ (by decide)]; exact f1.1 103 20 (by decide) (by simp)) (by rw [I_ne _ _ _ (by decide)]; exact hr1)
      let B0 := sp_cpy (sp_setI A2 103 0 0) 105 108 5 736 46
      have X2 : RX F B0 (rM M) lf n 999 := RX_of X1 (by rw [I_cpy_ne (by decide)]) (by rw [I_cpy_ne (by decide)])
      obtain ⟨B1, c1, c2, c3⟩ := fi_r (F := F) (c := w1) (a2 := w2) (r := rM M) (lf := lf) (kx := fun b10 b11 b12 M9 => fX11_first_j57 F b10 b11 b12 M9) hF (show (999 : Int) ≤ 1000 by decide) h6 61 0 F B0 (by omega) (by omega) (by
        show RX F B0 (rM M) lf n (999 + ((0 : Nat) : Int))
        rw [show (999 : Int) + ((0 : Nat) : Int) = 999 by omega]; exact X2)
      rw [hj] at c1 c2
      have e2 : fX11_first F A2 w1 w2 = some (if j = 61 then -1 else (if w2 = 0 then nI j else spA (itR lf (rM M) 0 n j) w1 n 0), sp_cpy B1 108 105 736 5 46) := by
        have c1 : fX11_first_l32 F _ F w1 w2 0 B0 = _ := c1
        have hpb : fX11_putBack F B1 16 = some (sp_cpy B1 108 105 736 5 46) := putB_e (q := 16) hF (by omega)
        have hk : fX11_keepAll F (sp_setI A2 103 0 0) 16 = some B0 := keep_e (q := 16) hF (by omega)
        have hs := sparkAt_r (c := w1) hF (RX_r c2) c2.2.2.2.2.2.1 h6
        unfold fX11_first
        simp only [sp_do]
        rw [if_neg (by rw [m_cell]; exact fun c => c hc), if_neg (by rw [m_in, n_l]; exact fun c => c h2), hk, Option.bind_some, c1]
        unfold fX11_first_j57
        rw [hpb, hs]
        by_cases h61 : j = 61
        · rw [if_pos h61, if_neg (show ¬ nI j ≤ 60 from nI_ge (a := 60) (by omega) (by omega))]; rfl
        · rw [if_neg h61, if_pos (show nI j ≤ 60 from nI_le (b := 60) (by omega) (by omega))]
          by_cases h0 : w2 = 0
          · rw [if_pos h0, if_pos h0]; rfl
          · rw [if_neg h0, if_neg h0]; rfl
      have f2 := frX11_first e2
      refine ⟨_, glue (b := fun m => fX11_first F m w1 w2) e1 e2, ?_⟩
      have h108 : ∀ j, j < 46 → sp_I B1 108 (736 + j) = rM M (5 + j) := by
        intro j hj
        rw [c3.1 108 _ (by decide) (by simp)]
        show sp_I (sp_cpy (sp_setI A2 103 0 0) 105 108 5 736 46) 108 (736 + j) = _
        rw [I_cpy, if_pos (by omega), I_ne _ _ _ (by decide)]
        rw [show 5 + (736 + j - 736) = 5 + j by omega]
        exact congrFun hr1 _
      refine Inv_paper (f1.tr2 f2) hI (by decide +kernel) (WS_fr0 f2 (by decide +kernel) (by decide +kernel) b3) (by decide +kernel) (pb_row c2.2.2.1 h108) (by decide +kernel) (fun j hj => ?_) (by decide +kernel) (Or.inl (by decide +kernel)) (by decide +kernel) (Or.inl (by decide +kernel)) (by decide +kernel)
      rw [I_cpy_ne (by decide), c3.1 108 j (by decide) (by simp)]
      show sp_I (sp_cpy (sp_setI A2 103 0 0) 105 108 5 736 46) 108 j = _
      rw [I_cpy, if_neg (by omega), I_ne _ _ _ (by decide)]
      exact f1.1 108 j (by decide) (by simp)
    · have e1 : fX10_first F M w1 w2 = some (-1, M) := by
        unfold fX10_first
        rw [if_neg (by rw [w_cell]; exact fun c => c hc), if_pos (by rw [w_in]; exact h2)]
      have e2 : fX11_first F M w1 w2 = some (-1, sp_setI M 103 0 0) := by
        unfold fX11_first
        simp only [sp_do]
        rw [if_neg (by rw [m_cell]; exact fun c => c hc), if_pos (by rw [m_in, n_l]; exact h2)]
      exact ⟨_, glue (b := fun m => fX11_first F m w1 w2) e1 e2, Inv_thrown hI⟩
  · have e1 : fX10_first F M w1 w2 = some (-1, M) := by
      unfold fX10_first
      rw [if_pos (by rw [w_cell]; exact hc)]
    have e2 : fX11_first F M w1 w2 = some (-1, sp_setI M 103 0 0) := by
      unfold fX11_first
      simp only [sp_do]
      rw [if_pos (by rw [m_cell]; exact hc)]
    exact ⟨_, glue (b := fun m => fX11_first F m w1 w2) e1 e2, Inv_thrown hI⟩
/-! ===== hot ===== -/
def htS (r : Nat → Int32) : Nat → Int32
  | 0 => 0
  | i + 1 => htS r i + r (15 + i)
section Hot
variable {F o n : Nat} {M : sp_Mem} {r : Nat → Int32} {lf : Option (List ev_C)} {T : Int}
theorem hs_c {kx : Int32 → Option Int32} (hR : i_Room M o r) (hn : r 0 = nI n) (h6 : n ≤ 6) : ∀ (m s k : Nat), s + m = n → m < k → fX5_heatOfAll_l4 F M o kx k (htS r s) (nI s) = kx (htS r n) := by
  intro m
  induction m with
  | zero =>
    intro s k hs hk
    obtain ⟨k, rfl⟩ : ∃ m, k = m + 1 := ⟨k - 1, by omega⟩
    unfold fX5_heatOfAll_l4
    rw [rm_s hR, hn, if_pos (nI_le (by omega) (by omega)), show s = n by omega]
  | succ m ih =>
    intro s k hs hk
    obtain ⟨k, rfl⟩ : ∃ m, k = m + 1 := ⟨k - 1, by omega⟩
    unfold fX5_heatOfAll_l4
    simp only [sp_do]
    rw [rm_s hR, hn, if_neg (nI_ge (by omega) (by omega)), sp_ix_nI (show s < 6 by omega) (by omega), Option.bind_some, rm_heat hR (show s < 6 by omega), nI_1]
    exact ih (s + 1) k (by omega) (by omega)
theorem hs_r {kx : Int32 → Int32 → sp_Mem → Option (Int32 × sp_Mem)} {a3 : Int32} (hr : ∀ i, sp_I M 105 i = r i) (hn : r 0 = nI n) (h6 : n ≤ 6) : ∀ (m s k : Nat), s + m = n → m < k → fX11_hot_l72 F kx k a3 (htS r s) (nI s) M = kx a3 (htS r n) M := by
  intro m
  induction m with
  | zero =>
    intro s k hs hk
    obtain ⟨k, rfl⟩ : ∃ m, k = m + 1 := ⟨k - 1, by omega⟩
    unfold fX11_hot_l72
    rw [hr, hn, if_pos (nI_le (by omega) (by omega)), show s = n by omega]
  | succ m ih =>
    intro s k hs hk
    obtain ⟨k, rfl⟩ : ∃ m, k = m + 1 := ⟨k - 1, by omega⟩
    unfold fX11_hot_l72
    simp only [sp_do]
    rw [hr, hn, if_neg (nI_ge (by omega) (by omega)), show (15 : Int32) + nI s = nI (15 + s) from nI_add 15 s, sp_ix_nI (show 15 + s < 5480 by omega) (by omega), Option.bind_some, hr, nI_1]
    exact ih (s + 1) k (by omega) (by omega)
theorem hl_c {kx : sp_Mem → Option (Int32 × sp_Mem)} {o1 q : Nat} (hq : q ≤ 60) (hT : T ≤ 1000) : ∀ (m i k : Nat) (M : sp_Mem), i + m = q → m < k → CX F M 78 (itR lf r 0 n i) lf n (T + i) → sp_WS M → ∃ M', fX1_heatLater_l19 F o1 kx k (nI q) (nI i) M = kx M' ∧ CX F M' 78 (itR lf r 0 n q) lf n (T + q) ∧ sp_WS M' := by
  intro m
  induction m with
  | zero =>
    intro i k M hi hk h hw
    obtain ⟨k, rfl⟩ : ∃ m, k = m + 1 := ⟨k - 1, by omega⟩
    refine ⟨M, ?_, by rw [show q = i by omega]; exact h, hw⟩
    unfold fX1_heatLater_l19
    rw [if_pos (nI_le (by omega) (by omega))]
  | succ m ih =>
    intro i k M hi hk h hw
    obtain ⟨k, rfl⟩ : ∃ m, k = m + 1 := ⟨k - 1, by omega⟩
    have hm4 : sp_I M 78 4 = nI n := (rm_s h.2.2.2.1).trans h.2.2.2.2.2.2.1
    obtain ⟨M1, e1, e2⟩ := pass_c (a := 0) (b := n) h (by omega) (by omega) (Nat.le_refl n)
    have e1 : fX6_passMinute F M 78 0 (nI n - 1) = some M1 := e1
    have hw1 := WS_fr0 (frX6_passMinute e1) (by decide +kernel) (by decide +kernel) hw
    obtain ⟨M2, f1, f2, f3⟩ := ih (i + 1) k M1 (by omega) (by omega) (by
      have : T + ((i + 1 : Nat) : Int) = T + i + 1 := by omega
      rw [this]; exact e2) hw1
    refine ⟨M2, ?_, f2, f3⟩
    unfold fX1_heatLater_l19
    rw [if_neg (nI_ge (by omega) (by omega)), hm4, e1, Option.bind_some, nI_1]
    exact f1
theorem hl_r {kx : Int32 → sp_Mem → Option (Int32 × sp_Mem)} {a3 : Int32} {q : Nat} (hq : q ≤ 60) (hT : T ≤ 1000) : ∀ (m i k : Nat) (M : sp_Mem), i + m = q → m < k → RX F M (itR lf r 0 n i) lf n (T + i) → ∃ M', fX11_hot_l50 F kx k (nI q) a3 (nI i) M = kx a3 M' ∧ RX F M' (itR lf r 0 n q) lf n (T + q) ∧ sp_fr [124, 121, 123, 105, 125] [(103, 34), (103, 38), (103, 39), (103, 40)] M M' := by
  intro m
  induction m with
  | zero =>
    intro i k M hi hk h
    obtain ⟨k, rfl⟩ : ∃ m, k = m + 1 := ⟨k - 1, by omega⟩
    refine ⟨M, ?_, by rw [show q = i by omega]; exact h, sp_fr.refl _ _ _⟩
    unfold fX11_hot_l50
    rw [if_pos (nI_le (by omega) (by omega))]
  | succ m ih =>
    intro i k M hi hk h
    obtain ⟨k, rfl⟩ : ∃ m, k = m + 1 := ⟨k - 1, by omega⟩
    obtain ⟨M1, e1, e2⟩ := pass_r h (by omega)
    obtain ⟨M2, f1, f2, f3⟩ := ih (i + 1) k M1 (by omega) (by omega) (by
      have : T + ((i + 1 : Nat) : Int) = T + i + 1 := by omega
      rw [this]; exact e2)
    refine ⟨M2, ?_, f2, (frX11_passIt e1).tr f3⟩
    unfold fX11_hot_l50
    rw [if_neg (nI_ge (by omega) (by omega)), e1, Option.bind_some, nI_1]
    exact f1
end Hot
theorem B_4 {r : Nat → Int32} {n : Nat} {v : Int32} (h : i_B r) (hn : n ≤ 6) (h3 : r 3 = nI n) (hv : wi v (-1) ((n : Int) - 1)) : i_B (up r 4 v) := by
  obtain ⟨⟨a1, a2, a3, a4, a5⟩, b⟩ := h
  refine ⟨⟨?_, ?_, ?_, ⟨n, hn, ?_, ?_⟩, ?_⟩, fun i h1 h2 => ?_⟩
  · rw [up_n _ _ (by omega)]; exact a1
  · rw [up_n _ _ (by omega)]; exact a2
  · rw [up_n _ _ (by omega)]; exact a3
  · rw [up_n _ _ (by omega)]; exact h3
  · rw [up_s]; exact hv
  · intro k hk
    rw [up_n _ _ (by omega)] at hk
    rw [up_n _ _ (by omega), up_n _ _ (by omega)]
    exact a5 k hk
  · rw [up_n _ _ (by omega)]; exact b i h1 h2
/-- hot -/
theorem op_35 {F k : Nat} {M : sp_Mem} (hF : 1000 ≤ F) (hI : Inv k M) (w1 w2 : Int32) : ∃ p, gL_35 F M w1 w2 = some p ∧ Inv (k + 1) p := by
  obtain ⟨hR, hB, hL⟩ := hI.2.1
  obtain ⟨nl, hnl, e3, hf⟩ := hB.1.2.2.2.1
  obtain ⟨n, h6, hn⟩ := hB.1.1
  have h14 : sp_I M 6 14 = nI nl := (rm_l hR).trans e3
  have hw := hI.1
  have h20 := hI.2.2.2.2.1.2.2.2.2.2
  have hlaw : ∀ M1, sp_I M1 105 3 = nI nl → fX11_isLaw M1 w1 = some (if w1 = -1 ∨ (0 ≤ w1.toInt ∧ w1.toInt < nl) then 1 else 0) := by
    intro M1 h1
    unfold fX11_isLaw
    have q := in_n (show nl < 100 by omega) _ h1 w1
    by_cases hm : w1 = -1
    · rw [if_pos hm, if_pos (Or.inl hm)]
    · rw [if_neg hm]
      by_cases hl : 0 ≤ w1.toInt ∧ w1.toInt < nl
      · rw [if_pos (Or.inr hl), if_neg (by rw [q]; exact fun c => c hl)]
      · have hq0 : fX11_in (Int32.toInt64 w1) 0 ((Int32.toInt64 (sp_I M1 105 3)) - 1) = 0 := by rw [q]; exact hl
        rw [if_pos hq0, if_neg (fun c => c.elim hm hl)]
  by_cases h1 : w1 = -1 ∨ (0 ≤ w1.toInt ∧ w1.toInt < nl)
  · have hcls : fX10_hot F M w1 w2 = fX10_hot_j16 F w1 w2 M := by
      unfold fX10_hot
      by_cases hm : w1 = -1
      · rw [if_pos hm]
      · rw [if_neg hm, if_neg]
        rw [has_l (show nl < 100 by omega) h14]
        exact fun c => c (h1.resolve_left hm)
    by_cases h2 : 0 ≤ w2.toInt ∧ w2.toInt ≤ 60
    · obtain ⟨q, hq, rfl⟩ := n_of (n := 61) h2.1 (by omega)
      have hwi : wi w1 (-1) ((nl : Int) - 1) := by
        rcases h1 with rfl | h1
        · exact ⟨by decide, by have : (-1 : Int32).toInt = -1 := rfl
                               omega⟩
        · exact ⟨by omega, by omega⟩
      obtain ⟨A, a1, a2, a4, a5, a6⟩ := copy_e (F := F) (M := M) (o0 := 78) (o1 := 6) hF (by omega)
      have hwA := copy_WS (by unfold sp_room; simp) (by unfold sp_room; simp) a6 a4 a5 hw
      have hB2 := B_4 hB hnl e3 hwi
      let A1 := sp_setI A 78 15 w1
      have hfr1 : sp_fr [79, 80, 81, 82, 83, 84, 85, 86, 87, 88, 89] [(78, 4), (78, 8), (78, 11), (78, 14), (78, 15)] M A1 := a6.tr (sp_fr_I (Or.inr (by decide)) rfl)
      have hL2 : i_Law A1 78 (up (rM M) 4 w1) := i_Law_fr hfr1 (by decide +kernel) (fun j hj => by
        have : (rM M 3).toInt ≤ 6 := r3_le hB
        show sp_P A 89 j = sp_P M 17 j
        exact a4 j (by omega)) (up_n _ _ (by omega)) (fun i g1 g2 => up_n _ _ (by omega)) (r3_le hB) hL
      obtain ⟨lf, hlf⟩ := Law_ex hB2.1 hL2
      have hRA : i_Room A1 78 (up (rM M) 4 w1) := Room_up (r := rM M) (fun i hi => (a2 i hi).trans (hR i hi)) 0 15 4 w1 fx_f
      have hn2 : up (rM M) 4 w1 0 = nI n := (up_n _ _ (by omega)).trans hn
      have hCX : CX F A1 78 (up (rM M) 4 w1) lf n 999 := ⟨hF, by rw [hfr1.2.2.2.2.1]; exact ws_N hw 4 10 (by decide) (by decide), ⟨by omega, by omega⟩, hRA, ⟨by decide, BT_of hB2⟩, hlf, hn2, h6⟩
      have hwA1 : sp_WS A1 := WS_fr0 (A := []) (B := [(78, 15)]) (sp_fr_I (Or.inr (by decide)) rfl) (by decide +kernel) (by decide +kernel) hwA
      obtain ⟨A2, b1, b2, b3⟩ := hl_c (F := F) (o1 := 6) (lf := lf) (kx := fun M5 => (fX5_heatOfAll F M5 78).bind fun v6 => some (v6, M5)) (show q ≤ 60 by omega) (show (999 : Int) ≤ 1000 by decide) q 0 F A1 (by omega) (by omega) (by
        show CX F A1 78 (up (rM M) 4 w1) lf n (999 + ((0 : Nat) : Int))
        rw [show (999 : Int) + ((0 : Nat) : Int) = 999 by omega]; exact hCX) hwA1
      have hheat : fX5_heatOfAll F A2 78 = some (htS (itR lf (up (rM M) 4 w1) 0 n q) n) := hs_c (F := F) (kx := fun b5 => some b5) b2.2.2.2.1 b2.2.2.2.2.2.2.1 h6 n 0 F (by omega) (by omega)
      have e1 : fX10_hot F M w1 (nI q) = some (htS (itR lf (up (rM M) 4 w1) 0 n q) n, A2) := by
        have b1 : fX1_heatLater_l19 F 6 _ F (nI q) 0 A1 = _ := b1
        rw [hcls]
        unfold fX10_hot_j16 fX1_heatLater
        rw [if_neg (by rw [w_in]; exact fun c => c h2), a1, Option.bind_some]
        simp only [sp_do]
        show (fX1_heatLater_l19 F 6 _ F (nI q) 0 A1).bind _ = _
        rw [b1, hheat]
        rfl
      have f1 := frX10_hot e1
      have hr1 : rM A2 = rM M := funext fun j => f1.1 105 j (by decide) (by simp)
      let B00 := sp_setI (sp_setI A2 103 0 0) 105 4 w1
      have hrB : rM B00 = up (rM M) 4 w1 := by
        show sp_I (sp_setI (sp_setI A2 103 0 0) 105 4 w1) 105 = _
        rw [I_up, I_ne _ _ _ (by decide)]
        show up (rM A2) 4 w1 = _
        rw [hr1]
      let B0 := sp_cpy B00 105 108 5 736 46
      have X2 : RX F B0 (up (rM M) 4 w1) lf n 999 := by
        refine ⟨hF, ?_, ?_, ⟨by decide, BT_of hB2⟩, hlf.q, hn2, h6⟩
        · show sp_I (sp_cpy B00 105 108 5 736 46) 103 20 = 0
          rw [I_cpy_ne (by decide)]
          show sp_I (sp_setI (sp_setI A2 103 0 0) 105 4 w1) 103 20 = 0
          rw [I_ne _ _ _ (by decide), I_nf _ _ _ (by decide), f1.1 103 20 (by decide) (by simp)]; exact h20
        · show sp_I (sp_cpy B00 105 108 5 736 46) 105 = _
          rw [I_cpy_ne (by decide)]; exact hrB
      obtain ⟨B1, c1, c2, c3⟩ := hl_r (F := F) (a3 := rM M 4) (r := up (rM M) 4 w1) (lf := lf) (kx := fun b11 M10 => fX11_hot_l72 F (fun b16 b17 M15 => (fX11_putBack F M15 16).bind fun M18 => sp_do (sp_setI M18 105 4 b16) fun M19 => some (b17, M19)) F b11 0 0 M10) (show q ≤ 60 by omega) (show (999 : Int) ≤ 1000 by decide) q 0 F B0 (by omega) (by omega) (by
        show RX F B0 (up (rM M) 4 w1) lf n (999 + ((0 : Nat) : Int))
        rw [show (999 : Int) + ((0 : Nat) : Int) = 999 by omega]; exact X2)
      have hd := hs_r (F := F) (M := B1) (a3 := rM M 4) (kx := fun b16 b17 M15 => (fX11_putBack F M15 16).bind fun M18 => sp_do (sp_setI M18 105 4 b16) fun M19 => some (b17, M19)) (RX_r c2) c2.2.2.2.2.2.1 h6 n 0 F (by omega) (by omega)
      have hpb : fX11_putBack F B1 16 = some (sp_cpy B1 108 105 736 5 46) := putB_e (q := 16) hF (by omega)
      let M2 := sp_setI (sp_cpy B1 108 105 736 5 46) 105 4 (rM M 4)
      have e2 : fX11_hot F A2 w1 (nI q) = some (htS (itR lf (up (rM M) 4 w1) 0 n q) n, M2) := by
        have c1 : fX11_hot_l50 F _ F (nI q) (rM M 4) 0 B0 = _ := c1
        have hd : fX11_hot_l72 F _ F (rM M 4) 0 0 B1 = _ := hd
        have hk : fX11_keepAll F B00 16 = some B0 := keep_e (q := 16) hF (by omega)
        have h4 : sp_I (sp_setI A2 103 0 0) 105 4 = rM M 4 := by
          rw [I_ne _ _ _ (by decide)]; exact congrFun hr1 4
        have h3 : sp_I (sp_setI A2 103 0 0) 105 3 = nI nl := by
          rw [I_ne _ _ _ (by decide)]; exact (congrFun hr1 3).trans e3
        unfold fX11_hot
        simp only [sp_do] at c1 hd ⊢
        rw [hlaw _ h3, if_pos h1, Option.bind_some, if_neg (by decide), if_neg (by rw [m_in, n_l]; exact fun c => c h2), h4]
        show (fX11_keepAll F B00 16).bind _ = _
        rw [hk, Option.bind_some, c1, hd, hpb]
        rfl
      have f2 := frX11_hot e2
      refine ⟨_, glue (b := fun m => fX11_hot F m w1 (nI q)) e1 e2, ?_⟩
      have h108 : ∀ j, j < 46 → sp_I B1 108 (736 + j) = up (rM M) 4 w1 (5 + j) := by
        intro j hj
        rw [c3.1 108 _ (by decide) (by simp)]
        show sp_I (sp_cpy B00 105 108 5 736 46) 108 (736 + j) = _
        rw [I_cpy, if_pos (by omega), show 5 + (736 + j - 736) = 5 + j by omega]
        exact congrFun hrB _
      have hrow : rM M2 = rM M := by
        show sp_I (sp_setI (sp_cpy B1 108 105 736 5 46) 105 4 (rM M 4)) 105 = _
        rw [I_up]
        show up (rM (sp_cpy B1 108 105 736 5 46)) 4 (rM M 4) = _
        rw [pb_row c2.2.2.1 h108, up_up, up_self rfl]
      refine Inv_paper (f1.tr2 f2) hI (by decide +kernel) (WS_fr0 f2 (by decide +kernel) (by decide +kernel) b3) (by decide +kernel) hrow (by decide +kernel) (fun j hj => ?_) (by decide +kernel) (Or.inl (by decide +kernel)) (by decide +kernel) (Or.inl (by decide +kernel)) (by decide +kernel)
      show sp_I (sp_setI (sp_cpy B1 108 105 736 5 46) 105 4 (rM M 4)) 108 j = _
      rw [I_ne _ _ _ (by decide), I_cpy_ne (by decide), c3.1 108 j (by decide) (by simp)]
      show sp_I (sp_cpy B00 105 108 5 736 46) 108 j = _
      rw [I_cpy, if_neg (by omega)]
      show sp_I (sp_setI (sp_setI A2 103 0 0) 105 4 w1) 108 j = _
      rw [I_ne _ _ _ (by decide), I_ne _ _ _ (by decide)]
      exact f1.1 108 j (by decide) (by simp)
    · have e1 : fX10_hot F M w1 w2 = some (-1, M) := by
        rw [hcls]
        unfold fX10_hot_j16
        rw [if_pos (by rw [w_in]; exact h2)]
      have e2 : fX11_hot F M w1 w2 = some (-1, sp_setI M 103 0 0) := by
        unfold fX11_hot
        simp only [sp_do]
        rw [hlaw _ (by rw [I_ne _ _ _ (by decide)]; exact e3), if_pos h1, Option.bind_some, if_neg (by decide), if_pos (by rw [m_in, n_l]; exact h2)]
      exact ⟨_, glue (b := fun m => fX11_hot F m w1 w2) e1 e2, Inv_thrown hI⟩
  · have hm : ¬ w1 = -1 := fun q => h1 (Or.inl q)
    have e1 : fX10_hot F M w1 w2 = some (-1, M) := by
      unfold fX10_hot
      rw [if_neg hm, if_pos]
      rw [has_l (show nl < 100 by omega) h14]
      exact fun c => h1 (Or.inr c)
    have e2 : fX11_hot F M w1 w2 = some (-1, sp_setI M 103 0 0) := by
      unfold fX11_hot
      simp only [sp_do]
      rw [hlaw _ (by rw [I_ne _ _ _ (by decide)]; exact e3), if_neg h1, Option.bind_some, if_pos rfl]
    exact ⟨_, glue (b := fun m => fX11_hot F m w1 w2) e1 e2, Inv_thrown hI⟩
