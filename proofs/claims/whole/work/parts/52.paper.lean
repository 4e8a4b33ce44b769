/-! ===== on paper: where, first, hot ===== -/
section Paper
variable {F o s n k : Nat} {M M' : sp_Mem} {r r' : Nat → Int32} {lf : Option (List ev_C)} {T : Int}
theorem copy_CX {o0 : Nat} (h : CX F M o r lf n T) (ho : o + 12 ≤ o0 ∨ o0 + 12 ≤ o) (h0 : 5 ≤ o0) (h1 : o0 ≤ 100) (hr0 : sp_room o0) (hr : sp_room o) : ∃ M1, fX5_copyFrom F M o0 o = some M1 ∧ CX F M1 o0 r lf n T ∧ (sp_WS M → sp_WS M1) ∧ (∀ j, j < 6 → sp_P M1 (o0 + 11) j = sp_P M (o + 11) j) ∧ sp_fr [(o0 + 1), (o0 + 2), (o0 + 3), (o0 + 4), (o0 + 5), (o0 + 6), (o0 + 7), (o0 + 8), (o0 + 9), (o0 + 10), (o0 + 11)] [(o0, 4), (o0, 8), (o0, 11), (o0, 14), (o0, 15)] M M1 := by
  obtain ⟨hF, hN, hoo, hR, hB, hL, hn, h6⟩ := h
  obtain ⟨M1, e1, e2, e3, e4, e5⟩ := copy_e (F := F) (M := M) (o0 := o0) (o1 := o) hF ho
  refine ⟨M1, e1, ⟨hF, by rw [e5.2.2.2.2.1]; exact hN, ⟨h0, h1⟩, fun i hi => (e2 i hi).trans (hR i hi), hB, ?_, hn, h6⟩, copy_WS hr0 hr e5 e3 e4, e3, e5⟩
  cases lf with
  | none => exact hL
  | some cl =>
    obtain ⟨k, t, g1, g2, g3, g4, g5, g6, g7⟩ := hL
    have hI : ∀ i, 132 ≤ i → sp_I M1 i = sp_I M i := fun i hi => funext fun j => e5.1 i j (by simp; omega) (by simp; omega)
    refine ⟨k, t, g1, g2, g3, by rw [e3 k g1]; exact g4, g5, ?_, g7⟩
    rw [hI (t + 1) (by omega), hI (t + 2) (by omega), hI t (by omega), e5.2.2.2.2.1, e5.2.2.2.2.1]
    exact g6
/-- rows that are alike where spark s is and looks -/
def Lk2 (r r' : Nat → Int32) (s : Nat) : Prop := r' (9 + s) = r (9 + s) ∧ Lk r r' s
theorem Lk2_C (h : Lk2 r r' s) : psC lf r' s = psC lf r s ∧ psH lf r' s = psH lf r s := by
  obtain ⟨h1, h2⟩ := h
  have hY : ∀ x, psY lf r' s x = psY lf r s x := by
    intro x
    unfold psY
    rw [Lk_goes h2]
    cases stp x (goes lf r s x).toNatClampNeg with
    | none => rfl
    | some d => dsimp only; rw [Lk_barred h2]
  have hT : psT lf r' s = psT lf r s := by
    unfold psT; rw [h1, hY]
  have hBn : psB lf r' s = psB lf r s := by
    unfold psB; rw [h1, hY, Lk_burns h2]
  have hH : psH lf r' s = psH lf r s := by
    unfold psH; rw [hBn, h2.1]
  exact ⟨by unfold psC; rw [hH, hT], hH⟩
/-- m MINUTES of the sparks a .. b - 1 -/
def itR (lf : Option (List ev_C)) (r : Nat → Int32) (a b : Nat) : Nat → Nat → Int32
  | 0 => r
  | m + 1 => passR lf (itR lf r a b m) a b
theorem passR_c {a b : Nat} (hs : s < 6) (h1 : a ≤ s) (h2 : s < b) : passR lf r a b (9 + s) = psC lf r s ∧ passR lf r a b (15 + s) = psH lf r s := by
  unfold passR
  rw [up_n _ _ (by omega), up_n _ _ (by omega)]
  unfold psR
  refine ⟨?_, ?_⟩
  · rw [if_pos (by omega), show 9 + s - 9 = s by omega]
  · rw [if_neg (by omega), if_pos (by omega), show 15 + s - 15 = s by omega]
theorem passR_5 {a b : Nat} : passR lf r a b 5 = r 5 + 1 := up_s _ _ _
theorem passR_x {a b j : Nat} (h : j < 9 ∨ 21 ≤ j) (h5 : j ≠ 5) : passR lf r a b j = r j := by
  unfold passR; rw [up_n _ _ h5, psR_out h]
theorem itR_Lk (hs : s < 6) (hn : s < n) : ∀ m, Lk2 (itR lf r 0 n m) (itR lf r s (s + 1) m) s
  | 0 => ⟨rfl, rfl, fun _ _ => rfl⟩
  | m + 1 => by
    have ih := itR_Lk hs hn m
    have hC := Lk2_C (lf := lf) ih
    have p1 := passR_c (lf := lf) (r := itR lf r s (s + 1) m) (a := s) (b := s + 1) hs (Nat.le_refl s) (by omega)
    have p2 := passR_c (lf := lf) (r := itR lf r 0 n m) (a := 0) (b := n) hs (Nat.zero_le s) hn
    refine ⟨?_, ?_, fun j hj => ?_⟩
    · show passR lf (itR lf r s (s + 1) m) s (s + 1) (9 + s) = passR lf (itR lf r 0 n m) 0 n (9 + s)
      rw [p1.1, p2.1, hC.1]
    · show passR lf (itR lf r s (s + 1) m) s (s + 1) (15 + s) = passR lf (itR lf r 0 n m) 0 n (15 + s)
      rw [p1.2, p2.2, hC.2]
    · show passR lf (itR lf r s (s + 1) m) s (s + 1) j = passR lf (itR lf r 0 n m) 0 n j
      by_cases h5 : j = 5
      · rw [h5, passR_5, passR_5, ih.2.2 5 (by omega)]
      · rw [passR_x hj h5, passR_x hj h5]; exact ih.2.2 j hj
theorem itR_out {a b j : Nat} (h : j < 5 ∨ 21 ≤ j) : ∀ m, itR lf r a b m j = r j
  | 0 => rfl
  | m + 1 => by
    show passR lf (itR lf r a b m) a b j = r j
    rw [passR_out h, itR_out h m]
/-! the class's loops -/
theorem cl_l {kx : Int32 → sp_Mem → Option (Int32 × sp_Mem)} {o1 q : Nat} (hs : s < n) (hq : q ≤ 60) (hT : T ≤ 1000) : ∀ (m i k : Nat) (M : sp_Mem), i + m = q → m < k → CX F M 78 (itR lf r s (s + 1) i) lf n (T + i) → sp_WS M → ∃ M', fX1_cellLater_l11 F o1 kx k (nI s) (nI q) (nI i) M = kx (nI s) M' ∧ CX F M' 78 (itR lf r s (s + 1) q) lf n (T + q) ∧ sp_WS M' := by
  intro m
  induction m with
  | zero =>
    intro i k M hi hk h hw
    obtain ⟨k, rfl⟩ : ∃ m, k = m + 1 := ⟨k - 1, by omega⟩
    refine ⟨M, ?_, by rw [show q = i by omega]; exact h, hw⟩
    unfold fX1_cellLater_l11
    rw [if_pos (nI_le (by omega) (by omega))]
  | succ m ih =>
    intro i k M hi hk h hw
    obtain ⟨k, rfl⟩ : ∃ m, k = m + 1 := ⟨k - 1, by omega⟩
    obtain ⟨M1, e1, e2⟩ := pass_c (a := s) (b := s + 1) h (by omega) (by omega) (by omega)
    rw [nI_pred] at e1
    have hw1 := WS_fr0 (frX6_passMinute e1) (by decide +kernel) (by decide +kernel) hw
    obtain ⟨M2, f1, f2, f3⟩ := ih (i + 1) k M1 (by omega) (by omega) (by
      have : T + ((i + 1 : Nat) : Int) = T + i + 1 := by omega
      rw [this]; exact e2) hw1
    refine ⟨M2, ?_, f2, f3⟩
    unfold fX1_cellLater_l11
    rw [if_neg (nI_ge (by omega) (by omega)), e1, Option.bind_some, nI_1]
    exact f1
theorem wh_l {kx : Int32 → sp_Mem → Option (Int32 × sp_Mem)} {a1 : Int32} {q : Nat} (hq : q ≤ 60) (hT : T ≤ 1000) : ∀ (m i k : Nat) (M : sp_Mem), i + m = q → m < k → RX F M (itR lf r 0 n i) lf n (T + i) → ∃ M', fX11_where_l36 F kx k a1 (nI q) (nI i) M = kx a1 M' ∧ RX F M' (itR lf r 0 n q) lf n (T + q) ∧ sp_fr [124, 121, 123, 105, 125] [(103, 34), (103, 38), (103, 39), (103, 40)] M M' := by
  intro m
  induction m with
  | zero =>
    intro i k M hi hk h
    obtain ⟨k, rfl⟩ : ∃ m, k = m + 1 := ⟨k - 1, by omega⟩
    refine ⟨M, ?_, by rw [show q = i by omega]; exact h, sp_fr.refl _ _ _⟩
    unfold fX11_where_l36
    rw [if_pos (nI_le (by omega) (by omega))]
  | succ m ih =>
    intro i k M hi hk h
    obtain ⟨k, rfl⟩ : ∃ m, k = m + 1 := ⟨k - 1, by omega⟩
    obtain ⟨M1, e1, e2⟩ := pass_r h (by omega)
    obtain ⟨M2, f1, f2, f3⟩ := ih (i + 1) k M1 (by omega) (by omega) (by
      have : T + ((i + 1 : Nat) : Int) = T + i + 1 := by omega
      rw [this]; exact e2)
    refine ⟨M2, ?_, f2, (frX11_passIt e1).tr f3⟩
    unfold fX11_where_l36
    rw [if_neg (nI_ge (by omega) (by omega)), e1, Option.bind_some, nI_1]
    exact f1
/-- the row put back as it was kept -/
theorem pb_row {a b m : Nat} (hr : rM M = itR lf r a b m) (h108 : ∀ i, i < 46 → sp_I M 108 (736 + i) = r (5 + i)) : rM (sp_cpy M 108 105 736 5 46) = r := by
  funext j
  show sp_I (sp_cpy M 108 105 736 5 46) 105 j = r j
  rw [I_cpy]
  by_cases hj : 5 ≤ j ∧ j < 5 + 46
  · rw [if_pos hj, h108 (j - 5) (by omega)]
    congr 1
    omega
  · rw [if_neg hj]
    have := congrFun hr j
    rw [itR_out (by omega)] at this
    exact this
theorem i_U_cg (h18 : sp_I M' 18 2 = sp_I M 18 2 ∧ sp_I M' 18 3 = sp_I M 18 3 ∧ sp_I M' 103 8 = sp_I M 103 8) (h19 : sp_I M' 19 = sp_I M 19) (h20 : sp_I M' 20 = sp_I M 20) (h109 : sp_I M' 109 = sp_I M 109) (h108 : ∀ j, j < 736 → sp_I M' 108 j = sp_I M 108 j) (hr : ∀ k, 1 ≤ k → k ≤ 3 → r' (5 + k) = r (5 + k)) (ht : i_U M r) : i_U M' r' := by
  obtain ⟨u, w, g1, g2, g3, g4, g5, g6⟩ := ht
  refine ⟨u, w, g1, g2, by rw [h18.2.1]; exact g3, by rw [h18.2.2]; exact g4, by rw [h18.1]; exact g5, fun k hk => ?_⟩
  obtain ⟨e1, e2, e3, e4, e5⟩ := g6 k hk
  rw [h20, h109, h19]
  refine ⟨e1, e2, fun i hi => ?_, fun i h1 h2 => ?_, fun i hi => ?_⟩
  · have hpm : i_pm i < 46 := by unfold i_pm; split <;> (try split) <;> omega
    rw [h108 _ (by omega)]; exact e3 i hi
  · rw [h108 _ (by omega)]; exact (e4 i h1 h2).trans (hr i h1 h2).symm
  · rw [h108 _ (by omega)]; exact e5 i hi
/-- a call that leaves the row as it was -/
theorem Inv_paper {A : List Nat} {B : List (Nat × Nat)} (h : sp_fr A B M M') (hI : Inv k M) (hok : okA A B = true) (hW : sp_WS M') (hR : dj [7, 8, 9, 10, 11, 12, 13, 14, 15, 16, 17] [(6, 4), (6, 8), (6, 11), (6, 14), (6, 15)] A B = true) (er : rM M' = rM M) (hU : dj [19, 20, 109] [(18, 2), (18, 3), (103, 8)] A B = true) (h108 : ∀ j, j < 736 → sp_I M' 108 j = sp_I M 108 j)
  (hT : dj [95, 112] [(94, 1), (103, 13)] A B = true)
  (hM : dj [102, 104] [(0, 12), (0, 13), (0, 14), (0, 15), (103, 1), (103, 11), (103, 18), (103, 50), (103, 20)] A B = true ∨ i_M M')
  (hi : dj [76, 106, 107, 53, 54, 55, 56, 57, 58, 59, 60, 61, 62, 63, 65, 66, 67, 68, 69, 70, 71, 72, 73, 74, 75] [(52, 4), (52, 8), (52, 11), (52, 14), (52, 15), (64, 4), (64, 8), (64, 11), (64, 14), (64, 15)] A B = true)
  (hN : dj [41, 42, 44, 131] [(0, 11), (39, 4), (39, 8), (103, 54), (103, 55)] A B = true ∨ i_N M')
  (hC : dj [118, 119, 120, 129] [(77, 2), (77, 3)] A B = true) : Inv (k + 1) M' := by
  obtain ⟨g1, g2, g3⟩ := hI.2.1
  refine Inv_step h hI hok (Or.inr hW) (Or.inr ⟨?_, by rw [er]; exact g2, ?_⟩) (Or.inr ?_) (Or.inl hT) hM (Or.inl hi) hN hC
  · unfold i_Room
    rw [er, rowOf_6 h (dj_sub (by decide) (by decide) hR)]
    exact g1
  · rw [er]
    exact i_Law_fr h hok (fun j _ => by rw [fr_P h hR 17 (by decide)]) rfl (fun _ _ _ => rfl) (r3_le g2) g3
  · rw [er]
    exact i_U_cg ⟨fr_B h hU 18 2 (by decide), fr_B h hU 18 3 (by decide), fr_B h hU 103 8 (by decide)⟩ (fr_A h hU 19 (by decide)) (fr_A h hU 20 (by decide)) (fr_A h hU 109 (by decide)) h108 (fun _ _ _ => rfl) hI.2.2.1
end Paper
/-- where -/
theorem op_22 {F k : Nat} {M : sp_Mem} (hF : 1000 ≤ F) (hI : Inv k M) (w1 w2 : Int32) : ∃ p, gL_22 F M w1 w2 = some p ∧ Inv (k + 1) p := by
  obtain ⟨lf, n, hC, hX⟩ := Inv_X hF hI
  have h6 := hC.2.2.2.2.2.2.2
  have hR := hC.2.2.2.1
  have hn := hC.2.2.2.2.2.2.1
  have X0 := RX_00 hX
  have hw := hI.1
  by_cases hs : 0 ≤ w1.toInt ∧ w1.toInt < n
  · obtain ⟨s, hs', rfl⟩ := n_of hs.1 hs.2
    by_cases h2 : 0 ≤ w2.toInt ∧ w2.toInt ≤ 60
    · obtain ⟨q, hq, rfl⟩ := n_of (n := 61) h2.1 (by omega)
      obtain ⟨A, a1, a2, a3, a4, a5⟩ := copy_CX (o0 := 78) hC (by omega) (by omega) (by omega) (by unfold sp_room; simp) (by unfold sp_room; simp)
      obtain ⟨A2, b1, b2, b3⟩ := cl_l (F := F) (o1 := 6) (kx := fun b5 M4 => (sp_ix 6 b5).bind fun j6 => some (sp_I M4 80 j6, M4)) hs' (show q ≤ 60 by omega) (show (999 : Int) ≤ 1000 by decide) q 0 F A (by omega) (by omega) (by
        show CX F A 78 (rM M) lf n (999 + ((0 : Nat) : Int))
        rw [show (999 : Int) + ((0 : Nat) : Int) = 999 by omega]; exact a2) (a3 hw)
      have ev : sp_I A2 80 s = itR lf (rM M) 0 n q (9 + s) := by
        rw [show sp_I A2 80 s = itR lf (rM M) s (s + 1) q (9 + s) from rm_cell b2.2.2.2.1 (show s < 6 by omega)]
        exact (itR_Lk (by omega) hs' q).1
      have e1 : fX10_where F M (nI s) (nI q) = some (itR lf (rM M) 0 n q (9 + s), A2) := by
        have b1 : fX1_cellLater_l11 F 6 _ F (nI s) (nI q) 0 A = _ := b1
        unfold fX10_where fX1_cellLater
        rw [if_neg (by rw [has_s (show n < 100 by omega) ((rm_s hR).trans hn)]; exact fun c => c hs), if_neg (by rw [w_in]; exact fun c => c h2), a1, Option.bind_some, b1]
        rw [sp_ix_nI (show s < 6 by omega) (by omega), Option.bind_some, Option.bind_some, ev]
      have f1 := frX10_where e1
      have hr1 : rM A2 = rM M := funext fun j => f1.1 105 j (by decide) (by simp)
      have X1 : RX F (sp_setI A2 103 0 0) (rM M) lf n 999 := RX_of hX (by rw [I_nf _ _ _ (by decide)]; exact f1.1 103 20 (by decide) (by simp)) (by rw [I_ne _ _ _ (by decide)]; exact hr1)
      let B0 := sp_cpy (sp_setI A2 103 0 0) 105 108 5 736 46
      have X2 : RX F B0 (rM M) lf n 999 := RX_of X1 (by rw [I_cpy_ne (by decide)]) (by rw [I_cpy_ne (by decide)])
      obtain ⟨B1, c1, c2, c3⟩ := wh_l (F := F) (a1 := nI s) (lf := lf) (kx := fun b9 M8 => (sp_ix 5480 (9 + b9)).bind fun j10 => sp_do (sp_I M8 105 j10) fun u11 => (fX11_putBack F M8 16).bind fun M12 => some (u11, M12)) (show q ≤ 60 by omega) (show (999 : Int) ≤ 1000 by decide) q 0 F B0 (by omega) (by omega) (by
        show RX F B0 (rM M) lf n (999 + ((0 : Nat) : Int))
        rw [show (999 : Int) + ((0 : Nat) : Int) = 999 by omega]; exact X2)
      have e2 : fX11_where F A2 (nI s) (nI q) = some (itR lf (rM M) 0 n q (9 + s), sp_cpy B1 108 105 736 5 46) := by
        have c1 : fX11_where_l36 F _ F (nI s) (nI q) 0 B0 = _ := c1
        unfold fX11_where
        simp only [sp_do] at c1 ⊢
        rw [RX_s X1, if_pos hs, Option.bind_some, if_neg (by decide), if_neg (by rw [m_in, n_l]; exact fun c => c h2), show (16 : Int32) = nI 16 from rfl, keep_e hF (by omega), Option.bind_some]
        show fX11_where_l36 F _ F (nI s) (nI q) 0 B0 = _
        rw [show (nI 16 : Int32) = 16 from rfl, c1]
        rw [show (9 : Int32) + nI s = nI (9 + s) from nI_add 9 s, sp_ix_nI (show 9 + s < 5480 by omega) (by omega), Option.bind_some, RX_r c2, show (16 : Int32) = nI 16 from rfl, putB_e hF (by omega), Option.bind_some]
        rfl
      have f2 := frX11_where e2
      refine ⟨_, glue (b := fun m => fX11_where F m (nI s) (nI q)) e1 e2, ?_⟩
      have h108 : ∀ j, j < 46 → sp_I B1 108 (736 + j) = rM M (5 + j) := by
        intro j hj
        rw [c3.1 108 _ (by decide) (by simp)]
        show sp_I (sp_cpy (sp_setI A2 103 0 0) 105 108 5 736 46) 108 (736 + j) = _
        rw [I_cpy, if_pos (by omega), I_ne _ _ _ (by decide)]
        rw [show 5 + (736 + j - 736) = 5 + j by omega]
        exact congrFun hr1 _
      refine Inv_paper (f1.tr2 f2) hI (by decide +kernel) (WS_fr0 f2 (by decide +kernel) (by decide +kernel) b3) (by decide +kernel) (pb_row c2.2.2.1 h108) (by decide +kernel) (fun j hj => ?_) (by decide +kernel) (Or.inl (by decide +kernel)) (by decide +kernel) (Or.inl (by decide +kernel)) (by decide +kernel)
      rw [I_cpy_ne (by decide), c3.1 108 j (by decide) (by simp)]
      show sp_I (sp_cpy (sp_setI A2 103 0 0) 105 108 5 736 46) 108 j = _
      rw [I_cpy, if_neg (by omega), I_ne _ _ _ (by decide)]
      exact f1.1 108 j (by decide) (by simp)
    · have e1 : fX10_where F M (nI s) w2 = some (-100, M) := by
        unfold fX10_where
        rw [if_neg (by rw [has_s (show n < 100 by omega) ((rm_s hR).trans hn)]; exact fun c => c hs), if_pos (by rw [w_in]; exact h2)]
      have e2 : fX11_where F M (nI s) w2 = some (-100, sp_setI M 103 0 0) := by
        unfold fX11_where
        simp only [sp_do]
        rw [RX_s X0, if_pos hs, Option.bind_some, if_neg (by decide), if_pos (by rw [m_in, n_l]; exact h2)]
      exact ⟨_, glue (b := fun m => fX11_where F m (nI s) w2) e1 e2, Inv_thrown hI⟩
  · have e1 : fX10_where F M w1 w2 = some (-100, M) := by
      unfold fX10_where
      rw [if_pos (by rw [has_s (show n < 100 by omega) ((rm_s hR).trans hn)]; exact hs)]
    have e2 : fX11_where F M w1 w2 = some (-100, sp_setI M 103 0 0) := by
      unfold fX11_where
      simp only [sp_do]
      rw [RX_s X0, if_neg hs, Option.bind_some, if_pos rfl]
    exact ⟨_, glue (b := fun m => fX11_where F m w1 w2) e1 e2, Inv_thrown hI⟩
