/-! ===== a MINUTE of the reference ===== -/
def cpR (lf : Option (List ev_C)) (r : Nat → Int32) (i j : Nat) : Int32 := if 9 ≤ j ∧ j < 15 ∧ j < i + 9 then psT lf r (j - 9) else r j
def htR (lf : Option (List ev_C)) (r : Nat → Int32) (n i j : Nat) : Int32 := if 9 ≤ j ∧ j < 15 ∧ j < n + 9 then (if j < i + 9 then psC lf r (j - 9) else psT lf r (j - 9)) else if 15 ≤ j ∧ j < 21 ∧ j < i + 15 then psH lf r (j - 15) else r j
section PassR
variable {F s x n : Nat} {M M' : sp_Mem} {r : Nat → Int32} {lf : Option (List ev_C)} {T : Int}
theorem RX_r (h : RX F M r lf n T) (i : Nat) : sp_I M 105 i = r i := by rw [← h.2.2.1]
theorem RX_set {o j : Nat} {v : Int32} (ho : o = 124 ∨ o = 125) (h : RX F M r lf n T) : RX F (sp_setI M o j v) r lf n T := RX_fr (sp_fr_I (Or.inl (by rcases ho with rfl | rfl <;> decide)) rfl) h
theorem pr_j64 {i : Nat} {kb : Int32 → sp_Mem → Option sp_Mem} {kx : sp_Mem → Option sp_Mem} (h : RX F M r lf n T) (hi : i < 6) : fX11_passIt_j64 F kb kx (nI i) (nI i) M = kb (nI (i + 1)) (sp_setI M 124 i (r (9 + i))) := by
  unfold fX11_passIt_j64
  rw [show (9 : Int32) + nI i = nI (9 + i) from nI_add 9 i, sp_ix_nI (show 9 + i < 5480 by omega) (by omega), Option.bind_some, sp_ix_nI hi (by omega), Option.bind_some, RX_r h, nI_1]
  rfl
theorem pr_l2 {kx : sp_Mem → Option sp_Mem} : ∀ (m i k : Nat) (M : sp_Mem), i + m = n → m < k → RX F M r lf n T → (∀ j, j < i → sp_I M 124 j = psT lf r j) → ∃ M', fX11_passIt_l2 F kx k (nI i) M = kx M' ∧ RX F M' r lf n T ∧ ∀ j, j < n → sp_I M' 124 j = psT lf r j := by
  intro m
  induction m with
  | zero =>
    intro i k M hi hk h ht
    obtain ⟨k, rfl⟩ : ∃ m, k = m + 1 := ⟨k - 1, by omega⟩
    have h6 := h.2.2.2.2.2.2
    have hn := h.2.2.2.2.2.1
    refine ⟨M, ?_, h, fun j hj => ht j (by omega)⟩
    unfold fX11_passIt_l2
    rw [RX_r h, hn, if_pos (nI_le (by omega) (by omega))]
  | succ m ih =>
    intro i k M hi hk h ht
    obtain ⟨k, rfl⟩ : ∃ m, k = m + 1 := ⟨k - 1, by omega⟩
    have h6 := h.2.2.2.2.2.2
    have hn := h.2.2.2.2.2.1
    have hB := h.2.2.2.1.2
    have h3 : RX F (sp_setI M 124 i (-1)) r lf n T := RX_set (Or.inl rfl) h
    have next : ∀ (M1 : sp_Mem) (v : Int32), RX F M1 r lf n T → (∀ j, j < i → sp_I M1 124 j = psT lf r j) → v = psT lf r i → ∃ M', fX11_passIt_l2 F kx k (nI (i + 1)) (sp_setI M1 124 i v) = kx M' ∧ RX F M' r lf n T ∧ ∀ j, j < n → sp_I M' 124 j = psT lf r j := by
      intro M1 v h1 h2 hv
      refine ih (i + 1) k _ (by omega) (by omega) (RX_set (Or.inl rfl) h1) (fun j hj => ?_)
      rw [sp_I_setI]
      by_cases hj2 : j = i
      · rw [if_pos ⟨rfl, hj2⟩, hj2, hv]
      · rw [if_neg (fun q => hj2 q.2)]; exact h2 j (by omega)
    have h124 : ∀ M1, sp_fr [121, 123] [(103, 34), (103, 38), (103, 39), (103, 40)] (sp_setI M 124 i (-1)) M1 → ∀ j, j < i → sp_I M1 124 j = psT lf r j := by
      intro M1 hf j hj
      rw [hf.1 124 j (by decide) (by simp), sp_I_setI, if_neg (by omega)]
      exact ht j hj
    unfold fX11_passIt_l2 fX11_isLoose
    simp only [sp_do]
    rw [RX_r h, hn, if_neg (nI_ge (by omega) (by omega)), sp_ix_nI (show i < 6 by omega) (by omega), Option.bind_some, show (9 : Int32) + nI i = nI (9 + i) from nI_add 9 i, sp_ix_nI (show 9 + i < 5480 by omega) (by omega), Option.bind_some, Option.bind_some, RX_r h3]
    rcases bt_cell hB (show i < 6 by omega) with hm | ⟨x, hx, ex⟩
    · rw [if_pos hm, if_pos rfl, nI_1]
      exact next M (-1) h ht (by unfold psT; rw [if_pos hm])
    · have hl : ¬ r (9 + i) = -1 := by rw [ex]; exact nI_m1 (by omega)
      obtain ⟨M1, e1, e2⟩ := way_r h3 (s := i) (by omega) ex hx
      obtain ⟨w, hw, ew⟩ := goes_w lf r i x
      rw [ew] at e1
      rw [if_neg hl, if_neg (by decide), Option.bind_some, e1, Option.bind_some]
      dsimp only
      rw [RX_r h3, ex, (stp_e x hx w hw).2.1, Option.bind_some]
      have hy : psT lf r i = nI (match stp x w with | none => x | some d => if barred lf r i d = 0 then d else x) := by
        unfold psT
        rw [if_neg hl, ex, nI_clamp (by omega)]
        unfold psY
        rw [ew, nI_clamp (by omega)]
        all_goals rfl
      cases hst : stp x w with
      | none =>
        rw [hst] at hy
        rw [if_pos (show oN none = -1 from rfl), pr_j64 (RX_fr2 e2 h3) (by omega)]
        exact next M1 _ (RX_fr2 e2 h3) (h124 M1 e2) (by rw [ex, hy])
      | some d =>
        rw [hst] at hy
        have hd := stp_lt hx hw hst
        rw [if_neg (show ¬ oN (some d) = -1 from nI_m1 (by omega))]
        obtain ⟨M2, g1, g2⟩ := barred_r (RX_fr2 e2 h3) (s := i) (by omega) hd
        show ∃ M', (fX11_isBarred F M1 (nI i) (nI d)).bind _ = _ ∧ _
        rw [g1, Option.bind_some]
        dsimp only at hy ⊢
        by_cases hb0 : barred lf r i d = 0
        · rw [if_pos hb0] at hy ⊢
          rw [Option.bind_some, nI_1]
          exact next M2 _ (RX_fr2 g2 (RX_fr2 e2 h3)) (h124 M2 (e2.tr g2)) hy.symm
        · rw [if_neg hb0] at hy ⊢
          rw [pr_j64 (RX_fr2 g2 (RX_fr2 e2 h3)) (by omega)]
          exact next M2 _ (RX_fr2 g2 (RX_fr2 e2 h3)) (h124 M2 (e2.tr g2)) (by rw [ex, hy])
theorem pr_l86 {kx : sp_Mem → Option sp_Mem} (hn : r 0 = nI n) (h6 : n ≤ 6) : ∀ (m i k : Nat) (M : sp_Mem), i + m = n → m < k → rM M = cpR lf r i → (∀ j, j < n → sp_I M 124 j = psT lf r j) → ∃ M', fX11_passIt_l86 F kx k (nI i) M = kx M' ∧ rM M' = cpR lf r n ∧ sp_fr [105] [] M M' := by
  intro m
  induction m with
  | zero =>
    intro i k M hi hk h ht
    obtain ⟨k, rfl⟩ : ∃ m, k = m + 1 := ⟨k - 1, by omega⟩
    refine ⟨M, ?_, by rw [h, show i = n by omega], sp_fr.refl _ _ _⟩
    have h0 : sp_I M 105 0 = nI n := by
      have := congrFun h 0
      rw [show cpR lf r i 0 = r 0 from if_neg (by omega), hn] at this; exact this
    unfold fX11_passIt_l86
    rw [h0, if_pos (nI_le (by omega) (by omega))]
  | succ m ih =>
    intro i k M hi hk h ht
    obtain ⟨k, rfl⟩ : ∃ m, k = m + 1 := ⟨k - 1, by omega⟩
    have h0 : sp_I M 105 0 = nI n := by
      have := congrFun h 0
      rw [show cpR lf r i 0 = r 0 from if_neg (by omega), hn] at this; exact this
    unfold fX11_passIt_l86
    simp only [sp_do]
    rw [h0, if_neg (nI_ge (by omega) (by omega)), sp_ix_nI (show i < 6 by omega) (by omega), Option.bind_some, show (9 : Int32) + nI i = nI (9 + i) from nI_add 9 i, sp_ix_nI (show 9 + i < 5480 by omega) (by omega), Option.bind_some, ht i (by omega), nI_1]
    obtain ⟨M', f1, f2, f3⟩ := ih (i + 1) k (sp_setI M 105 (9 + i) (psT lf r i)) (by omega) (by omega) (by
      show sp_I _ 105 = _
      rw [I_up, show sp_I M 105 = rM M from rfl, h]
      funext j
      unfold up cpR
      by_cases hj : j = 9 + i
      · rw [if_pos hj, if_pos (by omega), show j - 9 = i by omega]
      · rw [if_neg hj]
        by_cases hj2 : 9 ≤ j ∧ j < 15 ∧ j < i + 9
        · rw [if_pos hj2, if_pos (by omega)]
        · rw [if_neg hj2, if_neg (by omega)]) (fun j hj => by rw [I_ne _ _ _ (by decide)]; exact ht j hj)
    exact ⟨M', f1, f2, (sp_fr_I (Or.inl (by decide)) rfl).tr f3⟩
theorem cpR_Lk (i : Nat) : Lk r (cpR lf r n) i := by
  refine ⟨?_, fun j hj => ?_⟩
  · unfold cpR; rw [if_neg (by omega)]
  · unfold cpR; rw [if_neg (by omega)]
theorem cpR_BT (hB : i_BT T r) : i_BT T (cpR lf r n) := by
  refine BT_cg hB (fun j _ h2 => ?_) (fun j h1 h2 => ?_)
  · unfold cpR; rw [if_neg (by omega)]
  · unfold cpR
    split
    · have := bd_cell (j - 9) (by omega)
      rw [show 9 + (j - 9) = j by omega] at this
      rw [this.1, this.2]
      exact psT_wi hB (by omega)
    · exact bt_at hB (by omega) (by omega)
theorem pr_l119 {kx : sp_Mem → Option sp_Mem} (hB : i_BT T r) : ∀ (m i k : Nat) (M : sp_Mem), i + m = n → m < k → RX F M (cpR lf r n) lf n T → (∀ j, j < i → sp_I M 125 j = psB lf r j) → ∃ M', fX11_passIt_l119 F kx k (nI i) M = kx M' ∧ RX F M' (cpR lf r n) lf n T ∧ ∀ j, j < n → sp_I M' 125 j = psB lf r j := by
  intro m
  induction m with
  | zero =>
    intro i k M hi hk h ht
    obtain ⟨k, rfl⟩ : ∃ m, k = m + 1 := ⟨k - 1, by omega⟩
    have h6 := h.2.2.2.2.2.2
    have hn := h.2.2.2.2.2.1
    refine ⟨M, ?_, h, fun j hj => ht j (by omega)⟩
    unfold fX11_passIt_l119
    rw [RX_r h, hn, if_pos (nI_le (by omega) (by omega))]
  | succ m ih =>
    intro i k M hi hk h ht
    obtain ⟨k, rfl⟩ : ∃ m, k = m + 1 := ⟨k - 1, by omega⟩
    have h6 := h.2.2.2.2.2.2
    have hn := h.2.2.2.2.2.1
    have next : ∀ (M1 : sp_Mem) (v : Int32), RX F M1 (cpR lf r n) lf n T → (∀ j, j < i → sp_I M1 125 j = psB lf r j) → v = psB lf r i → ∃ M', fX11_passIt_l119 F kx k (nI (i + 1)) (sp_setI M1 125 i v) = kx M' ∧ RX F M' (cpR lf r n) lf n T ∧ ∀ j, j < n → sp_I M' 125 j = psB lf r j := by
      intro M1 v h1 h2 hv
      refine ih (i + 1) k _ (by omega) (by omega) (RX_set (Or.inr rfl) h1) (fun j hj => ?_)
      rw [sp_I_setI]
      by_cases hj2 : j = i
      · rw [if_pos ⟨rfl, hj2⟩, hj2, hv]
      · rw [if_neg (fun q => hj2 q.2)]; exact h2 j (by omega)
    have hc : cpR lf r n (9 + i) = psT lf r i := by unfold cpR; rw [if_pos (by omega), show 9 + i - 9 = i by omega]
    unfold fX11_passIt_l119 fX11_isLoose
    simp only [sp_do]
    rw [RX_r h, hn, if_neg (nI_ge (by omega) (by omega)), show (9 : Int32) + nI i = nI (9 + i) from nI_add 9 i, sp_ix_nI (show 9 + i < 5480 by omega) (by omega), Option.bind_some, Option.bind_some, RX_r h, hc]
    rcases bt_cell hB (show i < 6 by omega) with hm | ⟨x, hx, ex⟩
    · rw [if_pos (show psT lf r i = -1 by unfold psT; rw [if_pos hm]), if_pos rfl, sp_ix_nI (show i < 6 by omega) (by omega), Option.bind_some, nI_1]
      exact next M 0 h ht (by unfold psB; rw [if_pos hm])
    · have hl : ¬ r (9 + i) = -1 := by rw [ex]; exact nI_m1 (by omega)
      have hT1 : psT lf r i = nI (psY lf r i x) := by unfold psT; rw [if_neg hl, ex, nI_clamp (by omega)]
      have hy : psY lf r i x < 25 := psY_lt hx
      obtain ⟨M1, e1, e2⟩ := burn_r h (s := i) (by omega) (hc.trans hT1) hy
      rw [Lk_burns (cpR_Lk i)] at e1
      rw [hT1, if_neg (nI_m1 (by omega)), if_neg (by decide), e1, Option.bind_some, sp_ix_nI (show i < 6 by omega) (by omega), Option.bind_some, nI_1]
      exact next M1 _ (RX_fr2 e2 h) (fun j hj => by rw [e2.1 125 j (by decide) (by simp)]; exact ht j hj) (by unfold psB; rw [if_neg hl, ex, nI_clamp (by omega)])
theorem htR_0 : htR lf r n 0 = cpR lf r n := by
  funext j
  unfold htR cpR
  by_cases h : 9 ≤ j ∧ j < 15 ∧ j < n + 9
  · rw [if_pos h, if_pos h, if_neg (by omega)]
  · rw [if_neg h, if_neg h, if_neg (by omega)]
theorem htR_n : htR lf r n n = psR lf r 0 n := by
  funext j
  unfold htR psR
  by_cases h : 9 ≤ j ∧ j < 15 ∧ j < n + 9
  · rw [if_pos h, if_pos (by omega), if_pos (by omega)]
  · rw [if_neg h, if_neg (show ¬ (9 ≤ j ∧ j < 15 ∧ 0 + 9 ≤ j ∧ j < n + 9) by omega)]
    by_cases h2 : 15 ≤ j ∧ j < 21 ∧ j < n + 15
    · rw [if_pos h2, if_pos (by omega)]
    · rw [if_neg h2, if_neg (by omega)]
theorem htR_s {i : Nat} (hi : i < n) (h6 : n ≤ 6) : htR lf r n (i + 1) = up (up (htR lf r n i) (15 + i) (psH lf r i)) (9 + i) (psC lf r i) := by
  funext j
  unfold up htR
  by_cases h1 : j = 9 + i
  · rw [if_pos h1, if_pos (by omega), if_pos (by omega), show j - 9 = i by omega]
  · rw [if_neg h1]
    by_cases h2 : j = 15 + i
    · rw [if_pos h2, if_neg (by omega), if_pos (by omega), show j - 15 = i by omega]
    · rw [if_neg h2]
      by_cases h3 : 9 ≤ j ∧ j < 15 ∧ j < n + 9
      · rw [if_pos h3, if_pos h3]
        by_cases h4 : j < i + 9
        · rw [if_pos h4, if_pos (by omega)]
        · rw [if_neg h4, if_neg (by omega)]
      · rw [if_neg h3, if_neg h3]
        by_cases h4 : 15 ≤ j ∧ j < 21 ∧ j < i + 15
        · rw [if_pos h4, if_pos (by omega)]
        · rw [if_neg h4, if_neg (by omega)]
theorem pr_l160 {kx : sp_Mem → Option sp_Mem} (hn : r 0 = nI n) (h6 : n ≤ 6) : ∀ (m i k : Nat) (M : sp_Mem), i + m = n → m < k → rM M = htR lf r n i → (∀ j, j < n → sp_I M 125 j = psB lf r j) → ∃ M', fX11_passIt_l160 F kx k (nI i) M = kx M' ∧ rM M' = psR lf r 0 n ∧ sp_fr [105] [] M M' := by
  intro m
  induction m with
  | zero =>
    intro i k M hi hk h ht
    obtain ⟨k, rfl⟩ : ∃ m, k = m + 1 := ⟨k - 1, by omega⟩
    refine ⟨M, ?_, by rw [h, show i = n by omega, htR_n], sp_fr.refl _ _ _⟩
    have h0 : sp_I M 105 0 = nI n := by
      have := congrFun h 0
      rw [show htR lf r n i 0 = r 0 by unfold htR; rw [if_neg (by omega), if_neg (by omega)], hn] at this; exact this
    unfold fX11_passIt_l160
    rw [h0, if_pos (nI_le (by omega) (by omega))]
  | succ m ih =>
    intro i k M hi hk h ht
    obtain ⟨k, rfl⟩ : ∃ m, k = m + 1 := ⟨k - 1, by omega⟩
    have hat : ∀ j, sp_I M 105 j = htR lf r n i j := fun j => congrFun h j
    have h0 : sp_I M 105 0 = nI n := by
      rw [hat, show htR lf r n i 0 = r 0 by unfold htR; rw [if_neg (by omega), if_neg (by omega)], hn]
    have hh : sp_I M 105 (15 + i) = r (15 + i) := by
      rw [hat]; unfold htR; rw [if_neg (by omega), if_neg (by omega)]
    have hc : htR lf r n i (9 + i) = psT lf r i := by
      unfold htR; rw [if_pos (by omega), if_neg (by omega), show 9 + i - 9 = i by omega]
    have hst := htR_s (lf := lf) (r := r) (show i < n by omega) h6
    unfold fX11_passIt_l160
    simp only [sp_do, h0, nI_ge (show i < n by omega) (show n < 2 ^ 31 by omega), if_false, show (15 : Int32) + nI i = nI (15 + i) from nI_add 15 i, sp_ix_nI (show 15 + i < 5480 by omega) (by omega), sp_ix_nI (show i < 6 by omega) (by omega), Option.bind_some, hh, ht i (by omega), sp_I_setI, and_self, if_true, nI_1]
    have hpsH : fX11_within (Int32.toInt64 (r (15 + i) + psB lf r i)) 0 9 = psH lf r i := rfl
    rw [hpsH]
    by_cases hz : psH lf r i = 0
    · have hC : psC lf r i = -1 := by unfold psC; rw [if_pos hz]
      unfold fX11_endSpark
      simp only [hz, if_true, sp_do, show (9 : Int32) + nI i = nI (9 + i) from nI_add 9 i, show (15 : Int32) + nI i = nI (15 + i) from nI_add 15 i, sp_ix_nI (show 15 + i < 5480 by omega) (by omega), sp_ix_nI (show 9 + i < 5480 by omega) (by omega), Option.bind_some]
      obtain ⟨M', f1, f2, f3⟩ := ih (i + 1) k (sp_setI (sp_setI (sp_setI M 105 (15 + i) 0) 105 (9 + i) (-1)) 105 (15 + i) 0) (by omega) (by omega) (by
        show sp_I _ 105 = _
        rw [I_up, I_up, I_up, show sp_I M 105 = rM M from rfl, h, hst, hz, hC, up_cm (show 9 + i ≠ 15 + i by omega), up_up]) (fun j hj => by rw [I_ne _ _ _ (by decide), I_ne _ _ _ (by decide), I_ne _ _ _ (by decide)]; exact ht j hj)
      exact ⟨M', f1, f2, (((sp_fr_I (Or.inl (by decide)) rfl).tr (sp_fr_I (Or.inl (by decide)) rfl)).tr (sp_fr_I (Or.inl (by decide)) rfl)).tr f3⟩
    · have hC : psC lf r i = psT lf r i := by unfold psC; rw [if_neg hz]
      rw [if_neg hz]
      obtain ⟨M', f1, f2, f3⟩ := ih (i + 1) k (sp_setI M 105 (15 + i) (psH lf r i)) (by omega) (by omega) (by
        show sp_I _ 105 = _
        rw [I_up, show sp_I M 105 = rM M from rfl, h, hst, hC, up_self (q := 9 + i) (by rw [up_n _ _ (by omega)]; exact hc)]) (fun j hj => by rw [I_ne _ _ _ (by decide)]; exact ht j hj)
      exact ⟨M', f1, f2, (sp_fr_I (Or.inl (by decide)) rfl).tr f3⟩
/-- passIt of the reference -/
theorem pass_r (h : RX F M r lf n T) (hT : T + 1 ≤ 2000) : ∃ M', fX11_passIt F M = some M' ∧ RX F M' (passR lf r 0 n) lf n (T + 1) := by
  have hF := h.1
  have h6 := h.2.2.2.2.2.2
  have hn := h.2.2.2.2.2.1
  have hB := h.2.2.2.1.2
  suffices hx : ∃ M', fX11_passIt F M = some M' ∧ rM M' = passR lf r 0 n by
    obtain ⟨M', e1, e2⟩ := hx
    have hf := frX11_passIt e1
    refine ⟨M', e1, hF, by rw [hf.1 103 20 (by decide) (by decide)]; exact h.2.1, e2, ⟨hT, passR_BT hB (by omega) 0 n⟩, LawQ_cg h.2.2.2.2.1 (passR_out (by omega)) (fun i h1 h2 => passR_out (by omega)), (passR_out (by omega)).trans hn, h6⟩
  unfold fX11_passIt
  obtain ⟨M1, a1, a2, a3⟩ := pr_l2 (F := F) (kx := fun M17 => fX11_passIt_l86 F (fun M22 => fX11_passIt_l119 F (fun M31 => fX11_passIt_l160 F (fun M40 => sp_do (sp_setI M40 105 5 (sp_I M40 105 5 + 1)) fun M41 => some M41) F 0 M31) F 0 M22) F 0 M17) n 0 F M (by omega) (by omega) h (fun j hj => by omega)
  have a1' : fX11_passIt_l2 F _ F 0 M = _ := a1
  rw [a1']
  obtain ⟨M2, b1, b2, b3⟩ := pr_l86 (F := F) (lf := lf) (kx := fun M22 => fX11_passIt_l119 F (fun M31 => fX11_passIt_l160 F (fun M40 => sp_do (sp_setI M40 105 5 (sp_I M40 105 5 + 1)) fun M41 => some M41) F 0 M31) F 0 M22) hn h6 n 0 F M1 (by omega) (by omega) (by
    rw [a2.2.2.1]; funext j; unfold cpR; rw [if_neg (by omega)]) a3
  have b1' : fX11_passIt_l86 F _ F 0 M1 = _ := b1
  rw [b1']
  have hX2 : RX F M2 (cpR lf r n) lf n T := by
    refine ⟨hF, by rw [b3.1 103 20 (by decide) (by decide)]; exact a2.2.1, b2, ⟨h.2.2.2.1.1, cpR_BT hB⟩, LawQ_cg h.2.2.2.2.1 ((cpR_Lk 0).2 4 (by omega)) (fun i h1 h2 => (cpR_Lk 0).2 i (by omega)), ((cpR_Lk 0).2 0 (by omega)).trans hn, h6⟩
  obtain ⟨M3, c1, c2, c3⟩ := pr_l119 (F := F) (kx := fun M31 => fX11_passIt_l160 F (fun M40 => sp_do (sp_setI M40 105 5 (sp_I M40 105 5 + 1)) fun M41 => some M41) F 0 M31) hB n 0 F M2 (by omega) (by omega) hX2 (fun j hj => by omega)
  have c1' : fX11_passIt_l119 F _ F 0 M2 = _ := c1
  rw [c1']
  obtain ⟨M4, d1, d2, d3⟩ := pr_l160 (F := F) (lf := lf) (kx := fun M40 => sp_do (sp_setI M40 105 5 (sp_I M40 105 5 + 1)) fun M41 => some M41) hn h6 n 0 F M3 (by omega) (by omega) (by rw [c2.2.2.1, htR_0]) c3
  have d1' : fX11_passIt_l160 F _ F 0 M3 = _ := d1
  rw [d1']
  have e5 : sp_I M4 105 5 = r 5 := by
    have := congrFun d2 5
    rw [psR_out (by omega)] at this; exact this
  refine ⟨sp_setI M4 105 5 (r 5 + 1), by rw [e5]; rfl, ?_⟩
  show sp_I _ 105 = _
  rw [I_up, show sp_I M4 105 = rM M4 from rfl, d2]
  rfl
end PassR
