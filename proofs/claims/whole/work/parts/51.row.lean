/-! ===== row ===== -/
/-- one two of the tape: a cell and a kind, or ash -/
def rwX (b : Nat → Int32) (n i : Nat) (st : (Nat → Int32) × Nat × Int32) : (Nat → Int32) × Nat × Int32 := if i + 1 < n ∧ (0 ≤ (b i).toInt ∧ (b i).toInt < 25) ∧ (0 ≤ (b (i + 1)).toInt ∧ (b (i + 1)).toInt ≤ 3) then (up st.1 (26 + (b i).toNatClampNeg) (b (i + 1)), st.2.1 + 1, st.2.2) else (st.1, st.2.1, st.2.2 + 1)
def rwF (b : Nat → Int32) (n : Nat) : Nat → Nat → (Nat → Int32) × Nat × Int32 → (Nat → Int32) × Nat × Int32
  | 0, _, st => st
  | m + 1, i, st => if n ≤ i then st else rwF b n m (i + 2) (rwX b n i st)
section Row
variable {F n : Nat} {b : Nat → Int32}
theorem rwX_B {T : Int} {i : Nat} {st : (Nat → Int32) × Nat × Int32} (h : i_BT T st.1) : i_BT T (rwX b n i st).1 ∧ (∀ j, j < 26 ∨ 51 ≤ j → (rwX b n i st).1 j = st.1 j) ∧ (rwX b n i st).2.1 ≤ st.2.1 + 1 := by
  unfold rwX
  split
  · rename_i hc
    obtain ⟨c, hc25, e⟩ := n_of (n := 25) hc.2.1.1 hc.2.1.2
    rw [e, nI_clamp (by omega)]
    dsimp only
    refine ⟨⟨?_, ?_, fun j h1 h2 => ?_⟩, fun j hj => up_n _ _ (by omega), Nat.le_refl _⟩
    · obtain ⟨⟨a1, a2, a3, a4, a5⟩, b1, b2⟩ := h
      refine ⟨?_, ?_, ?_, ?_, ?_⟩
      · rw [up_n _ _ (by omega)]; exact a1
      · rw [up_n _ _ (by omega)]; exact a2
      · rw [up_n _ _ (by omega)]; exact a3
      · rw [up_n _ _ (by omega), up_n _ _ (by omega)]; exact a4
      · intro k hk
        rw [up_n _ _ (by omega)] at hk
        rw [up_n _ _ (by omega), up_n _ _ (by omega)]
        exact a5 k hk
    · rw [up_n _ _ (by omega)]; exact h.2.1
    · by_cases hj : j = 26 + c
      · rw [hj, up_s, (bd_kind c hc25).1, (bd_kind c hc25).2]; exact hc.2.2
      · rw [up_n _ _ hj]; exact h.2.2 j h1 h2
  · exact ⟨h, fun _ _ => rfl, Nat.le_succ _⟩
theorem rwF_B {T : Int} : ∀ (m i : Nat) (st : (Nat → Int32) × Nat × Int32), i_BT T st.1 → i_BT T (rwF b n m i st).1 ∧ (∀ j, j < 26 ∨ 51 ≤ j → (rwF b n m i st).1 j = st.1 j) ∧ (rwF b n m i st).2.1 ≤ st.2.1 + m
  | 0, i, st, h => ⟨h, fun _ _ => rfl, Nat.le_refl _⟩
  | m + 1, i, st, h => by
    show i_BT T (if n ≤ i then st else rwF b n m (i + 2) (rwX b n i st)).1 ∧ (∀ j, j < 26 ∨ 51 ≤ j → (if n ≤ i then st else rwF b n m (i + 2) (rwX b n i st)).1 j = st.1 j) ∧ (if n ≤ i then st else rwF b n m (i + 2) (rwX b n i st)).2.1 ≤ st.2.1 + (m + 1)
    by_cases hi : n ≤ i
    · rw [if_pos hi]; exact ⟨h, fun _ _ => rfl, by omega⟩
    · rw [if_neg hi]
      obtain ⟨x1, x2, x3⟩ := rwX_B (b := b) (n := n) (i := i) h
      obtain ⟨y1, y2, y3⟩ := rwF_B m (i + 2) _ x1
      exact ⟨y1, fun j hj => (y2 j hj).trans (x2 j hj), by omega⟩
theorem rw_c {kx : Int32 → sp_Mem → Option (Int32 × sp_Mem)} (hn : n ≤ 400) : ∀ (m i k : Nat) (M : sp_Mem) (st : (Nat → Int32) × Nat × Int32), n ≤ i + 2 * m → i ≤ n + 1 → m < k → sp_I M 94 1 = nI n → (∀ j, j < n → sp_I M 95 j = b j) → i_Room M 6 st.1 → sp_I M 0 13 = st.2.2 → ∃ M', fX10_row_l26 F kx k (nI st.2.1) (nI i) M = kx (nI (rwF b n m i st).2.1) M' ∧ i_Room M' 6 (rwF b n m i st).1 ∧ sp_I M' 0 13 = (rwF b n m i st).2.2 ∧ sp_fr [7] [(0, 13)] M M' := by
  intro m
  induction m with
  | zero =>
    intro i k M st hi hi2 hk h94 h95 hR h13
    obtain ⟨k, rfl⟩ : ∃ m, k = m + 1 := ⟨k - 1, by omega⟩
    refine ⟨M, ?_, hR, h13, sp_fr.refl _ _ _⟩
    unfold fX10_row_l26
    rw [h94, if_pos (nI_le (by omega) (by omega))]
    rfl
  | succ m ih =>
    intro i k M st hi hi2 hk h94 h95 hR h13
    obtain ⟨k, rfl⟩ : ∃ m, k = m + 1 := ⟨k - 1, by omega⟩
    rw [show rwF b n (m + 1) i st = if n ≤ i then st else rwF b n m (i + 2) (rwX b n i st) from rfl]
    unfold fX10_row_l26
    by_cases hni : n ≤ i
    · refine ⟨M, ?_, ?_, ?_, sp_fr.refl _ _ _⟩
      · rw [h94, if_pos (nI_le hni (by omega)), if_pos hni]
      · rw [if_pos hni]; exact hR
      · rw [if_pos hni]; exact h13
    · have eb : fX8_byteAt M (nI i) = some (b i) := by
        unfold fX8_byteAt
        rw [if_neg (nI_pos (by omega)), h94, if_neg (nI_ge (by omega) (by omega)), sp_ix_nI (show i < 400 by omega) (by omega), Option.bind_some, h95 i (by omega)]
      have eb1 : fX8_byteAt M (nI (i + 1)) = some (if i + 1 < n then b (i + 1) else -1) := by
        unfold fX8_byteAt
        rw [if_neg (nI_pos (by omega)), h94]
        by_cases h1 : i + 1 < n
        · rw [if_pos h1, if_neg (nI_ge (by omega) (by omega)), sp_ix_nI (show i + 1 < 400 by omega) (by omega), Option.bind_some, h95 (i + 1) (by omega)]
        · rw [if_neg h1, if_pos (nI_le (by omega) (by omega))]
      have ash : rwX b n i st = (st.1, st.2.1, st.2.2 + 1) → ∃ M', fX10_row_j92 F (fX10_row_l26 F kx k) kx (nI st.2.1) (nI i) M = kx (nI (rwF b n m (i + 2) (rwX b n i st)).2.1) M' ∧ i_Room M' 6 (rwF b n m (i + 2) (rwX b n i st)).1 ∧ sp_I M' 0 13 = (rwF b n m (i + 2) (rwX b n i st)).2.2 ∧ sp_fr [7] [(0, 13)] M M' := by
        intro hx
        unfold fX10_row_j92
        simp only [sp_do]
        rw [show nI i + 2 = nI (i + 2) from nI_add i 2, h13, hx]
        obtain ⟨M', f1, f2, f3, f4⟩ := ih (i + 2) k (sp_setI M 0 13 (st.2.2 + 1)) (st.1, st.2.1, st.2.2 + 1) (by omega) (by omega) (by omega) (by rw [I_ne _ _ _ (by decide)]; exact h94) (fun j hj => by rw [I_ne _ _ _ (by decide)]; exact h95 j hj) (Room_ne hR (by omega)) (I_eq _ _ _ _)
        exact ⟨M', f1, f2, f3, (sp_fr_I (Or.inr (by decide)) rfl).tr f4⟩
      rw [if_neg hni, h94, if_neg (nI_ge (by omega) (by omega)), eb, Option.bind_some, nI_1, eb1, Option.bind_some]
      by_cases hc : 0 ≤ (b i).toInt ∧ (b i).toInt < 25
      · rw [if_neg (by rw [w_cell]; exact fun q => q hc)]
        by_cases h1 : i + 1 < n
        · rw [if_pos h1]
          by_cases hk3 : 0 ≤ (b (i + 1)).toInt ∧ (b (i + 1)).toInt ≤ 3
          · have hx : rwX b n i st = (up st.1 (26 + (b i).toNatClampNeg) (b (i + 1)), st.2.1 + 1, st.2.2) := if_pos ⟨h1, hc, hk3⟩
            rw [if_neg (by rw [w_in]; exact fun q => q hk3), hx]
            obtain ⟨c, hc25, e⟩ := n_of (n := 25) hc.1 hc.2
            rw [e, nI_clamp (by omega), sp_ix_nI (show c < 25 by omega) (by omega), Option.bind_some]
            simp only [sp_do]
            rw [nI_1, show nI i + 2 = nI (i + 2) from nI_add i 2]
            obtain ⟨M', f1, f2, f3, f4⟩ := ih (i + 2) k (sp_setI M 7 c (b (i + 1))) (up st.1 (26 + c) (b (i + 1)), st.2.1 + 1, st.2.2) (by omega) (by omega) (by omega) (by rw [I_ne _ _ _ (by decide)]; exact h94) (fun j hj => by rw [I_ne _ _ _ (by decide)]; exact h95 j hj) (Room_up hR 1 c (26 + c) _ (fx_kind c hc25)) (by rw [I_ne _ _ _ (by decide)]; exact h13)
            exact ⟨M', f1, f2, f3, (sp_fr_I (Or.inl (by decide)) rfl).tr f4⟩
          · rw [if_pos (by rw [w_in]; exact hk3)]
            exact ash (if_neg (fun q => hk3 q.2.2))
        · rw [if_neg h1, if_pos (by decide)]
          exact ash (if_neg (fun q => h1 q.1))
      · rw [if_pos (by rw [w_cell]; exact hc)]
        exact ash (if_neg (fun q => hc q.2.1))
theorem rw_r {kx : Int32 → sp_Mem → Option (Int32 × sp_Mem)} (hn : n ≤ 400) : ∀ (m i k : Nat) (M : sp_Mem) (st : (Nat → Int32) × Nat × Int32), n ≤ i + 2 * m → i ≤ n + 1 → m < k → (∀ j, j < n → sp_I M 112 j = b j) → rM M = st.1 → sp_I M 103 11 = st.2.2 → ∃ M', fX11_row_l35 F kx k (nI n) (nI st.2.1) (nI i) M = kx (nI (rwF b n m i st).2.1) M' ∧ rM M' = (rwF b n m i st).1 ∧ sp_I M' 103 11 = (rwF b n m i st).2.2 ∧ sp_fr [105] [(103, 11)] M M' := by
  intro m
  induction m with
  | zero =>
    intro i k M st hi hi2 hk h95 hR h13
    obtain ⟨k, rfl⟩ : ∃ m, k = m + 1 := ⟨k - 1, by omega⟩
    refine ⟨M, ?_, hR, h13, sp_fr.refl _ _ _⟩
    unfold fX11_row_l35
    rw [if_pos (nI_le (by omega) (by omega))]
    rfl
  | succ m ih =>
    intro i k M st hi hi2 hk h95 hR h13
    obtain ⟨k, rfl⟩ : ∃ m, k = m + 1 := ⟨k - 1, by omega⟩
    rw [show rwF b n (m + 1) i st = if n ≤ i then st else rwF b n m (i + 2) (rwX b n i st) from rfl]
    unfold fX11_row_l35
    by_cases hni : n ≤ i
    · refine ⟨M, ?_, ?_, ?_, sp_fr.refl _ _ _⟩
      · rw [if_pos (nI_le hni (by omega)), if_pos hni]
      · rw [if_pos hni]; exact hR
      · rw [if_pos hni]; exact h13
    · have ash : rwX b n i st = (st.1, st.2.1, st.2.2 + 1) → ∃ M', fX11_row_j106 F (fX11_row_l35 F kx k) kx (nI n) (nI st.2.1) (nI i) M = kx (nI (rwF b n m (i + 2) (rwX b n i st)).2.1) M' ∧ rM M' = (rwF b n m (i + 2) (rwX b n i st)).1 ∧ sp_I M' 103 11 = (rwF b n m (i + 2) (rwX b n i st)).2.2 ∧ sp_fr [105] [(103, 11)] M M' := by
        intro hx
        unfold fX11_row_j106
        simp only [sp_do]
        rw [show nI i + 2 = nI (i + 2) from nI_add i 2, h13, hx]
        obtain ⟨M', f1, f2, f3, f4⟩ := ih (i + 2) k (sp_setI M 103 11 (st.2.2 + 1)) (st.1, st.2.1, st.2.2 + 1) (by omega) (by omega) (by omega) (fun j hj => by rw [I_ne _ _ _ (by decide)]; exact h95 j hj) (by show sp_I _ 105 = _; rw [I_ne _ _ _ (by decide)]; exact hR) (I_eq _ _ _ _)
        exact ⟨M', f1, f2, f3, (sp_fr_I (Or.inr (by decide)) rfl).tr f4⟩
      rw [if_neg hni, if_neg (nI_ge (by omega) (by omega)), nI_1]
      by_cases h1 : i + 1 < n
      · rw [if_neg (nI_ge h1 (by omega)), sp_ix_nI (show i < 400 by omega) (by omega), Option.bind_some, h95 i (by omega), sp_ix_nI (show i + 1 < 400 by omega) (by omega), Option.bind_some, h95 (i + 1) h1]
        by_cases hc : 0 ≤ (b i).toInt ∧ (b i).toInt < 25
        · rw [if_neg (by rw [m_cell]; exact fun q => q hc)]
          by_cases hk3 : 0 ≤ (b (i + 1)).toInt ∧ (b (i + 1)).toInt ≤ 3
          · have hx : rwX b n i st = (up st.1 (26 + (b i).toNatClampNeg) (b (i + 1)), st.2.1 + 1, st.2.2) := if_pos ⟨h1, hc, hk3⟩
            rw [if_neg (by rw [m_in, n_l]; exact fun q => q hk3), hx, Option.bind_some, Option.bind_some, h95 i (by omega), h95 (i + 1) h1]
            obtain ⟨c, hc25, e⟩ := n_of (n := 25) hc.1 hc.2
            rw [e, nI_clamp (by omega), show (26 : Int32) + nI c = nI (26 + c) from nI_add 26 c, sp_ix_nI (show 26 + c < 5480 by omega) (by omega), Option.bind_some]
            simp only [sp_do]
            rw [nI_1, show nI i + 2 = nI (i + 2) from nI_add i 2]
            obtain ⟨M', f1, f2, f3, f4⟩ := ih (i + 2) k (sp_setI M 105 (26 + c) (b (i + 1))) (up st.1 (26 + c) (b (i + 1)), st.2.1 + 1, st.2.2) (by omega) (by omega) (by omega) (fun j hj => by rw [I_ne _ _ _ (by decide)]; exact h95 j hj) (by show sp_I _ 105 = _; rw [I_up]; show up (rM M) _ _ = _; rw [hR]) (by rw [I_ne _ _ _ (by decide)]; exact h13)
            exact ⟨M', f1, f2, f3, (sp_fr_I (Or.inl (by decide)) rfl).tr f4⟩
          · rw [if_pos (by rw [m_in, n_l]; exact hk3)]
            exact ash (if_neg (fun q => hk3 q.2.2))
        · rw [if_pos (by rw [m_cell]; exact hc)]
          exact ash (if_neg (fun q => hc q.2.1))
      · rw [if_pos (nI_le (by omega) (by omega))]
        exact ash (if_neg (fun q => h1 q.1))
end Row
/-- row -/
theorem op_10 {F k : Nat} {M : sp_Mem} (hF : 1000 ≤ F) (hI : Inv k M) : ∃ p, gL_10 F M = some p ∧ Inv (k + 1) p := by
  obtain ⟨n, hn, t1, t2, ht⟩ := hI.2.2.2.1
  obtain ⟨hR, hB, hL⟩ := hI.2.1
  by_cases hn0 : n = 0
  · subst hn0
    have t0 : sp_I M 94 1 = 0 := t1
    have e1 : fX10_row F M = some (-6, rfM M 6) := by
      unfold fX10_row
      rw [if_pos t0, rf_6]
      rfl
    let M2 := tlM (sp_setI (sp_setI (rfM M 6) 103 0 0) 103 13 0) 6
    have u0 : sp_I (sp_setI (rfM M 6) 103 0 0) 103 13 = 0 := by
      rw [I_nf _ _ _ (by decide), rf_I _ _ (by omega) (by omega)]; exact t2
    have e2 : fX11_row F (rfM M 6) = some (-6, M2) := by
      unfold fX11_row
      simp only [sp_do]
      rw [if_pos u0, tl_6]
      rfl
    have hM2 : M2 = tlM (sp_setI (rfM M 6) 103 0 0) 6 := by
      show tlM (sp_setI (sp_setI (rfM M 6) 103 0 0) 103 13 0) 6 = _
      rw [setI_self u0]
    refine ⟨M2, glue (b := fun m => fX11_row F m) e1 e2, ?_⟩
    rw [hM2]
    exact Inv_ref hI
  · have hb : ∀ j, j < n → sp_I M 95 j = sp_I M 112 j := fun j hj => (ht j hj).1
    have h94 : ¬ sp_I M 94 1 = 0 := by rw [t1]; exact nI_ne0 (by omega) (by omega)
    have c13 : sp_I (sp_setI M 0 13 0) 0 13 = 0 := I_eq _ _ _ _
    obtain ⟨A, a1, a2, a3, a4⟩ := rw_c (F := F) (b := sp_I M 112) (kx := fun b12 M11 => sp_do (sp_setI M11 94 1 0) fun M13 => (fX3_clear M13 18).bind fun M14 => (fX10_grant M14 b12).bind fun x15 => some (x15.1, x15.2)) hn 200 0 F (sp_setI M 0 13 0) (rM M, 0, 0) (by omega) (by omega) (by omega) (by rw [I_ne _ _ _ (by decide)]; exact t1) (fun j hj => by rw [I_ne _ _ _ (by decide)]; exact hb j hj) (Room_ne hR (by omega)) c13
    obtain ⟨B1, B2, B3⟩ := rwF_B (b := sp_I M 112) (n := n) 200 0 (rM M, 0, 0) (BT_of hB)
    generalize hst : rwF (sp_I M 112) n 200 0 (rM M, 0, 0) = st at a1 a2 a3 B1 B2 B3
    have B3 : st.2.1 ≤ 0 + 200 := B3
    let M1 := sp_setI (sp_setI (sp_setI A 94 1 0) 18 3 0) 0 12 0
    have e1 : fX10_row F M = some (nI st.2.1, M1) := by
      unfold fX10_row
      rw [if_neg h94]
      exact a1
    have f1 := frX10_row e1
    have u0 : sp_I (sp_setI M1 103 0 0) 103 13 = nI n := by
      rw [I_nf _ _ _ (by decide), f1.1 103 13 (by decide) (by decide)]; exact t2
    have hne : ¬ nI n = 0 := nI_ne0 (by omega) (by omega)
    obtain ⟨C, b1, b2, b3, b4⟩ := rw_r (F := F) (b := sp_I M 112) (kx := fun b18 M17 => (fX11_settled M17 b18).bind fun x19 => some (x19.1, x19.2)) hn 200 0 F (sp_setI (sp_setI (sp_setI M1 103 0 0) 103 13 0) 103 11 0) (rM M, 0, 0) (by omega) (by omega) (by omega) (fun j hj => by rw [I_ne _ _ _ (by decide), I_ne _ _ _ (by decide), I_ne _ _ _ (by decide), f1.1 112 j (by decide) (by simp)]) (by
      show sp_I _ 105 = _
      rw [I_ne _ _ _ (by decide), I_ne _ _ _ (by decide), I_ne _ _ _ (by decide)]
      exact funext fun j => f1.1 105 j (by decide) (by simp)) (I_eq _ _ _ _)
    rw [hst] at b1 b2 b3
    let M2 := sp_setI (sp_setI C 103 8 0) 103 1 0
    have e2 : fX11_row F M1 = some (nI st.2.1, M2) := by
      unfold fX11_row
      simp only [sp_do]
      rw [u0, if_neg hne]
      have b1 : fX11_row_l35 F _ F (nI n) 0 0 (sp_setI (sp_setI (sp_setI M1 103 0 0) 103 13 0) 103 11 0) = _ := b1
      rw [b1, settled_g _ (nI_pos' (by omega))]
      rfl
    have f2 := frX11_row e2
    refine ⟨M2, glue (b := fun m => fX11_row F m) e1 e2, ?_⟩
    have hA : ∀ i j, i ≠ 7 → (i = 0 → j ≠ 13) → sp_I A i j = sp_I M i j := by
      intro i j h1 h2
      rw [a4.1 i j (by simp [h1]) (by simp; exact h2), sp_I_setI, if_neg (fun q => h2 q.1 q.2)]
    have er : rM M2 = st.1 := by
      show sp_I _ 105 = _
      rw [I_ne _ _ _ (by decide), I_ne _ _ _ (by decide)]; exact b2
    have hC : ∀ i j, i ≠ 105 → i ≠ 103 → sp_I C i j = sp_I M1 i j := by
      intro i j h1 h2
      rw [b4.1 i j (by simp [h1]) (by simp [h2]), I_ne _ _ _ h2, I_ne _ _ _ h2, I_ne _ _ _ h2]
    have hM2 : ∀ i j, i ≠ 105 → i ≠ 103 → sp_I M2 i j = sp_I M1 i j := by
      intro i j h1 h2
      show sp_I (sp_setI (sp_setI C 103 8 0) 103 1 0) i j = _
      rw [I_ne _ _ _ h2, I_ne _ _ _ h2]; exact hC i j h1 h2
    refine Inv_step (f1.tr2 f2) hI (by decide +kernel) (Or.inl (by decide +kernel)) (Or.inr ⟨?_, ?_, ?_⟩) (Or.inr ?_) (Or.inr ⟨0, by omega, ?_, ?_, fun i hi => by omega⟩) (Or.inr ?_) (Or.inl (by decide +kernel)) (Or.inl (by decide +kernel)) (by decide +kernel)
    · rw [er]
      intro i hi
      have hfa := fa_le i hi
      rw [ro_at, hM2 _ _ (by omega) (by omega)]
      show sp_I (sp_setI (sp_setI (sp_setI A 94 1 0) 18 3 0) 0 12 0) _ _ = _
      rw [I_ne _ _ _ (by omega), I_ne _ _ _ (by omega), I_ne _ _ _ (by omega), ← ro_at]
      exact a2 i hi
    · rw [er]; exact BT_to B1
    · rw [er]
      exact i_Law_fr (f1.tr2 f2) (by decide +kernel) (fun j _ => by rw [fr_P (f1.tr2 f2) (SA := [17]) (SB := []) (by decide +kernel) 17 (by decide)]) (B2 3 (by omega)) (fun i h1 h2 => B2 i (by omega)) (r3_le hB) hL
    · refine U_clear hI ?_ ?_ ?_
      · rw [hM2 _ _ (by decide) (by decide)]
        show sp_I (sp_setI (sp_setI (sp_setI A 94 1 0) 18 3 0) 0 12 0) _ _ = _
        rw [I_ne _ _ _ (by decide), I_eq]
      · show sp_I (sp_setI (sp_setI C 103 8 0) 103 1 0) 103 8 = 0
        rw [I_nf _ _ _ (by decide), I_eq]
      · rw [hM2 _ _ (by decide) (by decide)]
        show sp_I (sp_setI (sp_setI (sp_setI A 94 1 0) 18 3 0) 0 12 0) _ _ = _
        rw [I_ne _ _ _ (by decide), I_nf _ _ _ (by decide), I_ne _ _ _ (by decide)]
        exact hA 18 2 (by decide) (by decide)
    · rw [hM2 _ _ (by decide) (by decide)]
      show sp_I (sp_setI (sp_setI (sp_setI A 94 1 0) 18 3 0) 0 12 0) _ _ = _
      rw [I_ne _ _ _ (by decide), I_ne _ _ _ (by decide), I_eq]
      rfl
    · show sp_I (sp_setI (sp_setI C 103 8 0) 103 1 0) 103 13 = _
      rw [I_nf _ _ _ (by decide), I_nf _ _ _ (by decide), b4.1 103 13 (by decide) (by decide), I_nf _ _ _ (by decide), I_eq]
      rfl
    · obtain ⟨g1, g2, g3, g4, g5, g6⟩ := hI.2.2.2.2.1
      have hX : ∀ j, j ≠ 0 → j ≠ 13 → j ≠ 11 → j ≠ 8 → j ≠ 1 → sp_I M2 103 j = sp_I M 103 j := by
        intro j h0 h1 h2 h3 h4
        show sp_I (sp_setI (sp_setI C 103 8 0) 103 1 0) 103 j = _
        rw [I_nf _ _ _ h4, I_nf _ _ _ h3, b4.1 103 j (by decide) (by simp [h2]), I_nf _ _ _ h2, I_nf _ _ _ h1, I_nf _ _ _ h0]
        show sp_I (sp_setI (sp_setI (sp_setI A 94 1 0) 18 3 0) 0 12 0) _ _ = _
        rw [I_ne _ _ _ (by decide), I_ne _ _ _ (by decide), I_ne _ _ _ (by decide)]
        exact hA 103 j (by decide) (by simp)
      have hY : ∀ i j, i ≠ 105 → i ≠ 103 → i ≠ 94 → i ≠ 18 → i ≠ 7 → (i = 0 → j ≠ 12 ∧ j ≠ 13) → sp_I M2 i j = sp_I M i j := by
        intro i j h1 h2 h3 h4 h5 h6
        rw [hM2 _ _ h1 h2]
        show sp_I (sp_setI (sp_setI (sp_setI A 94 1 0) 18 3 0) 0 12 0) _ _ = _
        rw [sp_I_setI, if_neg (fun q => (h6 q.1).1 q.2), I_ne _ _ _ h4, I_ne _ _ _ h3]
        exact hA i j h5 (fun q => (h6 q).2)
      refine ⟨fun i hi => ?_, ?_, ?_, ?_, ?_, ?_⟩
      · rw [hY 102 i (by decide) (by decide) (by decide) (by decide) (by decide) (by simp), hY 104 i (by decide) (by decide) (by decide) (by decide) (by decide) (by simp)]; exact g1 i hi
      · rw [hM2 _ _ (by decide) (by decide)]
        show sp_I (sp_setI (sp_setI (sp_setI A 94 1 0) 18 3 0) 0 12 0) 0 12 = sp_I (sp_setI (sp_setI C 103 8 0) 103 1 0) 103 1
        rw [I_eq, I_eq]
      · rw [hM2 _ _ (by decide) (by decide)]
        show sp_I (sp_setI (sp_setI (sp_setI A 94 1 0) 18 3 0) 0 12 0) 0 13 = sp_I (sp_setI (sp_setI C 103 8 0) 103 1 0) 103 11
        rw [I_nf _ _ _ (by decide), I_ne _ _ _ (by decide), I_ne _ _ _ (by decide), I_nf _ _ _ (by decide), I_nf _ _ _ (by decide), a3, b3]
      · rw [hY 0 14 (by decide) (by decide) (by decide) (by decide) (by decide) (by decide), hX 18 (by decide) (by decide) (by decide) (by decide) (by decide)]; exact g4
      · rw [hY 0 15 (by decide) (by decide) (by decide) (by decide) (by decide) (by decide), hX 50 (by decide) (by decide) (by decide) (by decide) (by decide)]; exact g5
      · rw [hX 20 (by decide) (by decide) (by decide) (by decide) (by decide)]; exact g6
