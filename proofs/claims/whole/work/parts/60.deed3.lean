/-! ===== call, wet, walk, pass, undo ===== -/
theorem i_M_ref {M M' : sp_Mem} {c : Nat} (hM : i_M M) (h1 : ∀ i, sp_I M' 102 i = if i = c then sp_I M 102 c + 1 else sp_I M 102 i) (h2 : ∀ i, sp_I M' 104 i = if i = c then sp_I M 104 c + 1 else sp_I M 104 i) (h3 : sp_I M' 0 12 = sp_I M' 103 1) (hc : c < 7) (h5 : ∀ j, j = 13 ∨ j = 14 ∨ j = 15 → sp_I M' 0 j = sp_I M 0 j) (h6 : ∀ j, j = 11 ∨ j = 18 ∨ j = 50 ∨ j = 20 → sp_I M' 103 j = sp_I M 103 j) : i_M M' := by
  obtain ⟨a1, a2, a3, a4, a5, a6⟩ := hM
  refine ⟨fun i hi => ?_, h3, ?_, ?_, ?_, ?_⟩
  · rw [h1, h2, a1 i hi, a1 c hc]
  · rw [h5 13 (by simp), h6 11 (by simp)]; exact a3
  · rw [h5 14 (by simp), h6 18 (by simp)]; exact a4
  · rw [h5 15 (by simp), h6 50 (by simp)]; exact a5
  · rw [h6 20 (by simp)]; exact a6
theorem Inv_deed {F k w u : Nat} {M A M1 B M2 : sp_Mem} {r2 : Nat → Int32} {e : Pe} (hI : Inv k M) (fA : sp_fr [19, 4, 3, 8, 9, 20, 7, 11, 16] [(18, 2), (18, 3)] M A) (fB : sp_fr [121, 123, 108, 109, 105, 124, 125] [(103, 34), (103, 38), (103, 39), (103, 40), (103, 8)] (sp_setI M1 103 0 0) B) (hst : (∃ c, 1 ≤ c ∧ c ≤ 6 ∧ M1 = rfM A c ∧ M2 = tlM B c) ∨ (M1 = sp_setI A 0 12 0 ∧ M2 = sp_setI B 103 1 0)) (hR2 : i_Room A 6 r2) (hB2 : i_BT 999 r2) (h34 : ∀ j, j < 5 ∨ 51 ≤ j → r2 j = rM M j) (hPC : PC A 18 w u e) (rB : rM B = r2) (hPR : PR B u e) (hPB : PB u e r2) : Inv (k + 1) M2 := by
  have fM1 : sp_fr [102] [(0, 12)] A M1 := by
    rcases hst with ⟨c, _, _, h1, _⟩ | ⟨h1, _⟩
    · rw [h1]; exact (sp_fr_I (Or.inr (by decide)) rfl).tr (sp_fr_I (Or.inl (by decide)) rfl)
    · rw [h1]; exact sp_fr_I (Or.inr (by decide)) rfl
  have fM2 : sp_fr [104] [(103, 1)] B M2 := by
    rcases hst with ⟨c, _, _, _, h1⟩ | ⟨_, h1⟩
    · rw [h1]; exact (sp_fr_I (Or.inr (by decide)) rfl).tr (sp_fr_I (Or.inl (by decide)) rfl)
    · rw [h1]; exact sp_fr_I (Or.inr (by decide)) rfl
  have fS : sp_fr [] [(103, 0)] M1 (sp_setI M1 103 0 0) := sp_fr_I (Or.inr (by decide)) rfl
  have f : sp_fr ([19, 4, 3, 8, 9, 20, 7, 11, 16] ++ ([102] ++ ([] ++ ([121, 123, 108, 109, 105, 124, 125] ++ [104])))) ([(18, 2), (18, 3)] ++ ([(0, 12)] ++ ([(103, 0)] ++ ([(103, 34), (103, 38), (103, 39), (103, 40), (103, 8)] ++ [(103, 1)])))) M M2 := fA.tr2 (fM1.tr2 (fS.tr2 (fB.tr2 fM2)))
  have hAM : ∀ i j, i ≠ 102 → i ≠ 0 → i ≠ 103 → i ≠ 121 → i ≠ 123 → i ≠ 108 → i ≠ 109 → i ≠ 105 → i ≠ 124 → i ≠ 125 → i ≠ 104 → sp_I M2 i j = sp_I A i j := by
    intro i j g1 g2 g3 g4 g5 g6 g7 g8 g9 g10 g11
    rw [fM2.1 i j (by simp [g11]) (by simp [g3]), fB.1 i j (by simp [g4, g5, g6, g7, g8, g9, g10]) (by simp [g3]), fS.1 i j (by simp) (by simp [g3]), fM1.1 i j (by simp [g1]) (by simp [g2])]
  have er : rM M2 = r2 := by
    rw [← rB]; exact funext fun j => fM2.1 105 j (by decide) (by simp)
  refine Inv_step f hI (by decide +kernel) (Or.inl (by decide +kernel)) (Or.inr ⟨?_, ?_, ?_⟩) (Or.inr ?_) (Or.inl (by decide +kernel)) (Or.inr ?_) (Or.inl (by decide +kernel)) (Or.inl (by decide +kernel)) (by decide +kernel)
  · rw [er]
    intro i hi
    have := fa_le i hi
    rw [ro_at, hAM _ _ (by omega) (by omega) (by omega) (by omega) (by omega) (by omega) (by omega) (by omega) (by omega) (by omega) (by omega), ← ro_at]
    exact hR2 i hi
  · rw [er]; exact BT_to hB2
  · rw [er]
    exact i_Law_fr f (by decide +kernel) (fun j _ => by rw [fr_P f (SA := [17]) (SB := []) (by decide +kernel) 17 (by decide)]) (h34 3 (by omega)) (fun i h1 h2 => h34 i (by omega)) (r3_le hI.2.1.2.1) hI.2.1.2.2
  · rw [er]
    refine U_to (PC_cg hPC (fun j hj => hAM _ _ (by decide) (by decide) (by decide) (by decide) (by decide) (by decide) (by decide) (by decide) (by decide) (by decide) (by decide)) (fun k hk i hi => hAM _ _ (by decide) (by decide) (by decide) (by decide) (by decide) (by decide) (by decide) (by decide) (by decide) (by decide) (by decide)) (funext fun j => hAM _ _ (by decide) (by decide) (by decide) (by decide) (by decide) (by decide) (by decide) (by decide) (by decide) (by decide) (by decide))) (PR_fr hPR fM2 (by decide) (by simp) (by simp)) hPB
  · have hMM := hI.2.2.2.2.1
    have hd : dj [] [(0, 13), (0, 14), (0, 15), (103, 11), (103, 18), (103, 50), (103, 20)] ([19, 4, 3, 8, 9, 20, 7, 11, 16] ++ ([102] ++ ([] ++ ([121, 123, 108, 109, 105, 124, 125] ++ [104])))) ([(18, 2), (18, 3)] ++ ([(0, 12)] ++ ([(103, 0)] ++ ([(103, 34), (103, 38), (103, 39), (103, 40), (103, 8)] ++ [(103, 1)])))) = true := by decide +kernel
    have k0 : ∀ j, j = 13 ∨ j = 14 ∨ j = 15 → sp_I M2 0 j = sp_I M 0 j := by
      intro j hj; rcases hj with rfl | rfl | rfl
      · exact fr_B f hd 0 13 (by decide)
      · exact fr_B f hd 0 14 (by decide)
      · exact fr_B f hd 0 15 (by decide)
    have k103 : ∀ j, j = 11 ∨ j = 18 ∨ j = 50 ∨ j = 20 → sp_I M2 103 j = sp_I M 103 j := by
      intro j hj; rcases hj with rfl | rfl | rfl | rfl
      · exact fr_B f hd 103 11 (by decide)
      · exact fr_B f hd 103 18 (by decide)
      · exact fr_B f hd 103 50 (by decide)
      · exact fr_B f hd 103 20 (by decide)
    have h102 : ∀ j, sp_I M2 102 j = sp_I M1 102 j := fun j => by
      rw [fM2.1 102 j (by decide) (by simp), fB.1 102 j (by decide) (by simp), fS.1 102 j (by simp) (by simp)]
    have h012 : sp_I M2 0 12 = sp_I M1 0 12 := by
      rw [fM2.1 0 12 (by decide) (by simp), fB.1 0 12 (by decide) (by simp), fS.1 0 12 (by simp) (by simp)]
    have h104 : ∀ j, sp_I B 104 j = sp_I M 104 j := fun j => by
      rw [fB.1 104 j (by decide) (by simp), fS.1 104 j (by simp) (by simp), fM1.1 104 j (by decide) (by simp), fA.1 104 j (by decide) (by simp)]
    have hA102 : ∀ j, sp_I A 102 j = sp_I M 102 j := fun j => fA.1 102 j (by decide) (by simp)
    rcases hst with ⟨c, hc1, hc6, h1, h2⟩ | ⟨h1, h2⟩
    · refine i_M_ref (c := c) hMM (fun i => ?_) (fun i => ?_) ?_ (by omega) k0 k103
      · rw [h102, h1]
        unfold rfM
        by_cases hi : i = c
        · rw [if_pos hi, hi, I_eq, hA102]
        · rw [if_neg hi, I_nf _ _ _ hi, I_ne _ _ _ (by decide), hA102]
      · rw [h2]
        unfold tlM
        by_cases hi : i = c
        · rw [if_pos hi, hi, I_eq, h104]
        · rw [if_neg hi, I_nf _ _ _ hi, I_ne _ _ _ (by decide), h104]
      · rw [h012, h1, h2]
        unfold rfM tlM
        rw [I_ne _ _ _ (by decide), I_eq, I_ne _ _ _ (by decide), I_eq]
    · refine i_M_grant hMM (funext fun j => ?_) (funext fun j => ?_) ?_ ?_ k0 k103
      · rw [h102, h1, I_ne _ _ _ (by decide), hA102]
      · rw [h2, I_ne _ _ _ (by decide), h104]
      · rw [h012, h1, I_eq]
      · rw [h2, I_eq]
theorem noted_n (M : sp_Mem) {c : Nat} (h1 : 1 ≤ c) (h6 : c ≤ 6) : fX10_noted M (-(nI c)) = some (-(nI c), rfM M c) := by
  unfold fX10_noted
  rw [if_neg (by rw [n_le, (neg_nI h1 h6).2, show (0 : Int32).toInt = 0 from rfl]; omega), refuse_e M h1 h6]
  rfl
theorem noted_g (M : sp_Mem) {t : Nat} (h : t < 2000) : fX10_noted M (nI t) = some (nI t, sp_setI M 0 12 0) := by
  unfold fX10_noted
  rw [if_pos (nI_pos' (by omega))]
  rfl
/-- a deed by a call of its own -/
theorem deed_op {F k n w u : Nat} {M A : sp_Mem} {e : Pe} {lf : Option (List ev_C)} {d : Int32} {x : Dv} {G : sp_Mem → Option (Int32 × sp_Mem)} (hI : Inv k M) (hok : dOk (rM M) x) (hPB : PB u e (rM M)) (hd : wi d 0 3) (hu : u ≤ 16) (fA : sp_fr [19, 4, 3, 8, 9, 20, 7, 11, 16] [(18, 2), (18, 3)] M A) (hA : dAC F A 5 w u e (rM M) lf n d x) (hG : ∀ B0, RX F B0 (rM M) lf n 999 → PR B0 u e → ∃ B, G B0 = some (tv x, B) ∧ dAR F B u e (rM M) lf n d x ∧ sp_fr [121, 123, 108, 109, 105, 124, 125] [(103, 34), (103, 38), (103, 39), (103, 40), (103, 8)] B0 B) (hX : RX F M (rM M) lf n 999) (hP : PR M u e) : ∃ M1 B M2, fX10_noted A (tv x) = some (tv x, M1) ∧ G (sp_setI M1 103 0 0) = some (tv x, B) ∧ fX11_tell B (tv x) = some (tv x, M2) ∧ Inv (k + 1) M2 := by
  have hBT := hX.2.2.2.1.2
  obtain ⟨c, o⟩ := x
  cases o with
  | none =>
    obtain ⟨hc1, hc3⟩ := hok
    have hc1 : 1 ≤ c := hc1
    have hc3 : c ≤ 3 := hc3
    obtain ⟨cx, pc⟩ := hA
    have fM1 : sp_fr [102] [(0, 12)] A (rfM A c) := (sp_fr_I (Or.inr (by decide)) rfl).tr (sp_fr_I (Or.inl (by decide)) rfl)
    have f1 := (fA.tr2 fM1).tr2 (sp_fr_I (A := []) (B := [(103, 0)]) (M := rfM A c) (o := 103) (j := 0) (x := 0) (Or.inr (by decide)) rfl)
    obtain ⟨B, b1, ⟨b2, b3⟩, b4⟩ := hG (sp_setI (rfM A c) 103 0 0) (RX_of hX (f1.1 103 20 (by decide) (by decide)) (funext fun j => f1.1 105 j (by decide) (by simp))) (PR_fr hP f1 (by decide) (by simp) (by simp))
    refine ⟨rfM A c, B, tlM B c, noted_n A hc1 (by omega), b1, tell_e B hc1 (by omega), ?_⟩
    exact Inv_deed (F := F) hI fA b4 (Or.inl ⟨c, hc1, by omega, rfl, rfl⟩) cx.2.2.2.1 hBT (fun _ _ => rfl) pc b2.2.2.1 b3 hPB
  | some y =>
    obtain ⟨t, r2⟩ := y
    obtain ⟨ht, hj, hB2⟩ := hok
    have ht : t < 2000 := ht
    have hj : ∀ j, j < 5 ∨ (6 ≤ j ∧ j < 9) ∨ 51 ≤ j → r2 j = rM M j := hj
    have hB2 : i_BT 999 r2 := hB2
    obtain ⟨cx, pc⟩ := hA
    have fM1 : sp_fr [] [(0, 12)] A (sp_setI A 0 12 0) := sp_fr_I (Or.inr (by decide)) rfl
    have f1 := (fA.tr2 fM1).tr2 (sp_fr_I (A := []) (B := [(103, 0)]) (M := sp_setI A 0 12 0) (o := 103) (j := 0) (x := 0) (Or.inr (by decide)) rfl)
    obtain ⟨B, b1, ⟨b2, b3⟩, b4⟩ := hG (sp_setI (sp_setI A 0 12 0) 103 0 0) (RX_of hX (f1.1 103 20 (by decide) (by decide)) (funext fun j => f1.1 105 j (by decide) (by simp))) (PR_fr hP f1 (by decide) (by simp) (by simp))
    refine ⟨sp_setI A 0 12 0, B, sp_setI B 103 1 0, noted_g A ht, b1, tell_g B (nI_pos' (by show t < 2 ^ 31; omega)), ?_⟩
    exact Inv_deed (F := F) hI fA b4 (Or.inr ⟨rfl, rfl⟩) cx.2.2.2.1 hB2 (fun j h => hj j (by omega)) pc b2.2.2.1 b3 (PB_push hPB hBT hd hu (fun i h1 h2 => hj (5 + i) (by omega)))
/-- call -/
theorem op_17 {F k : Nat} {M : sp_Mem} (hF : 1000 ≤ F) (hI : Inv k M) (w1 w2 : Int32) : ∃ p, gL_17 F M w1 w2 = some p ∧ Inv (k + 1) p := by
  obtain ⟨lf, n, hC, hX⟩ := Inv_X hF hI
  have h6 := hC.2.2.2.2.2.2.2
  have hB := hC.2.2.2.2.1.2
  obtain ⟨np, hp5, hnp⟩ := bt_p hB
  obtain ⟨u, w, e, pc, pr, pb⟩ := U_of hI.2.2.1
  obtain ⟨A, a1, a2⟩ := perf_c (o0 := 5) (dd := 0) (Or.inl rfl) hC pc hnp hp5 (by omega) w1 w2
  have a1 : fX7_perform F M 5 0 w1 w2 = some (tv (dCall lf (rM M) n np w1 w2), A) := a1
  obtain ⟨M1, B, M2, z1, z2, z3, z4⟩ := deed_op (G := fun m => fX11_callNow F m w1 w2) hI (dCall_ok hB h6 hp5 w1 w2) pb (by unfold wi; decide) pc.2.1 (frX7_perform a1) a2 (fun B0 hX0 hP0 => by
    obtain ⟨B, b1, b2⟩ := callNow_r hX0 hP0 pc.2.1 hnp hp5 w1 w2
    exact ⟨B, b1, b2, (frX11_callNow b1).mono (by decide) (by decide)⟩) hX pr
  refine ⟨M2, glue (b := fun m => fX11_call F m w1 w2) (M1 := M1) (v := tv (dCall lf (rM M) n np w1 w2)) ?_ ?_, z4⟩
  · unfold fX10_call
    rw [a1, Option.bind_some, z1]
    rfl
  · unfold fX11_call
    simp only [sp_do]
    rw [z2, Option.bind_some, z3]
    rfl
/-- wet -/
theorem op_18 {F k : Nat} {M : sp_Mem} (hF : 1000 ≤ F) (hI : Inv k M) (w1 : Int32) : ∃ p, gL_18 F M w1 = some p ∧ Inv (k + 1) p := by
  obtain ⟨lf, n, hC, hX⟩ := Inv_X hF hI
  have hB := hC.2.2.2.2.1.2
  obtain ⟨np, hp5, hnp⟩ := bt_p hB
  obtain ⟨u, w, e, pc, pr, pb⟩ := U_of hI.2.2.1
  obtain ⟨A, a1, a2⟩ := perf_c (o0 := 5) (dd := 1) (Or.inl rfl) hC pc hnp hp5 (by omega) w1 0
  have a1 : fX7_perform F M 5 1 w1 0 = some (tv (dWet (rM M) w1), A) := a1
  obtain ⟨M1, B, M2, z1, z2, z3, z4⟩ := deed_op (G := fun m => fX11_wetNow F m w1) hI (dWet_ok hB w1) pb (by unfold wi; decide) pc.2.1 (frX7_perform a1) a2 (fun B0 hX0 hP0 => by
    obtain ⟨B, b1, b2⟩ := wetNow_r hX0 hP0 pc.2.1 w1
    exact ⟨B, b1, b2, (frX11_wetNow b1).mono (by decide) (by decide)⟩) hX pr
  refine ⟨M2, glue (b := fun m => fX11_wet F m w1) (M1 := M1) (v := tv (dWet (rM M) w1)) ?_ ?_, z4⟩
  · unfold fX10_wet
    rw [a1, Option.bind_some, z1]
    rfl
  · unfold fX11_wet
    simp only [sp_do]
    rw [z2, Option.bind_some, z3]
    rfl
/-- walk -/
theorem op_19 {F k : Nat} {M : sp_Mem} (hF : 1000 ≤ F) (hI : Inv k M) (w1 w2 : Int32) : ∃ p, gL_19 F M w1 w2 = some p ∧ Inv (k + 1) p := by
  obtain ⟨lf, n, hC, hX⟩ := Inv_X hF hI
  have hB := hC.2.2.2.2.1.2
  obtain ⟨np, hp5, hnp⟩ := bt_p hB
  obtain ⟨u, w, e, pc, pr, pb⟩ := U_of hI.2.2.1
  obtain ⟨A, a1, a2⟩ := perf_c (o0 := 5) (dd := 2) (Or.inl rfl) hC pc hnp hp5 (by omega) w1 w2
  have a1 : fX7_perform F M 5 2 w1 w2 = some (tv (dWalk (rM M) np w1 w2), A) := a1
  obtain ⟨M1, B, M2, z1, z2, z3, z4⟩ := deed_op (G := fun m => fX11_walkNow F m w1 w2) hI (dWalk_ok hB hp5 w1 w2) pb (by unfold wi; decide) pc.2.1 (frX7_perform a1) a2 (fun B0 hX0 hP0 => by
    obtain ⟨B, b1, b2⟩ := walkNow_r hX0 hP0 pc.2.1 hnp hp5 w1 w2
    exact ⟨B, b1, b2, (frX11_walkNow b1).mono (by decide) (by decide)⟩) hX pr
  refine ⟨M2, glue (b := fun m => fX11_walk F m w1 w2) (M1 := M1) (v := tv (dWalk (rM M) np w1 w2)) ?_ ?_, z4⟩
  · unfold fX10_walk
    rw [a1, Option.bind_some, z1]
    rfl
  · unfold fX11_walk
    simp only [sp_do]
    rw [z2, Option.bind_some, z3]
    rfl
/-- pass -/
theorem op_20 {F k : Nat} {M : sp_Mem} (hF : 1000 ≤ F) (hI : Inv k M) : ∃ p, gL_20 F M = some p ∧ Inv (k + 1) p := by
  obtain ⟨lf, n, hC, hX⟩ := Inv_X hF hI
  have hB := hC.2.2.2.2.1.2
  obtain ⟨np, hp5, hnp⟩ := bt_p hB
  obtain ⟨u, w, e, pc, pr, pb⟩ := U_of hI.2.2.1
  obtain ⟨A, a1, a2⟩ := perf_c (o0 := 5) (dd := 3) (Or.inl rfl) hC pc hnp hp5 (by omega) 0 0
  have a1 : fX7_perform F M 5 3 0 0 = some (tv (dPass lf (rM M) n), A) := a1
  obtain ⟨M1, B, M2, z1, z2, z3, z4⟩ := deed_op (G := fun m => fX11_passNow F m) hI (dPass_ok (lf := lf) (n := n) hB) pb (by unfold wi; decide) pc.2.1 (frX7_perform a1) a2 (fun B0 hX0 hP0 => by
    obtain ⟨B, b1, b2⟩ := passNow_r hX0 hP0 pc.2.1
    exact ⟨B, b1, b2, (frX11_passNow b1).mono (by decide) (by decide)⟩) hX pr
  refine ⟨M2, glue (b := fun m => fX11_pass F m) (M1 := M1) (v := tv (dPass lf (rM M) n)) ?_ ?_, z4⟩
  · unfold fX10_pass
    rw [a1, Option.bind_some, z1]
    rfl
  · unfold fX11_pass
    simp only [sp_do]
    rw [z2, Option.bind_some, z3]
    rfl
/-! undo -/
theorem load_e {q o f : Nat} {M : sp_Mem} (hf : f < 17) (ho : o + 12 ≤ q) : ∃ M', fX5_loadMoves M o (q + 1) (nI f * 43) = some M' ∧ (∀ k, k < 25 → sp_I M' (o + 1) k = sp_I M (q + 1) (43 * f + k)) ∧ (∀ k, k < 6 → sp_I M' (o + 2) k = sp_I M (q + 1) (43 * f + (25 + k))) ∧ (∀ k, k < 6 → sp_I M' (o + 3) k = sp_I M (q + 1) (43 * f + (31 + k))) ∧ (∀ k, k < 5 → sp_I M' (o + 5) k = sp_I M (q + 1) (43 * f + (37 + k))) ∧ sp_I M' (o + 10) 0 = sp_I M (q + 1) (43 * f + 42) ∧ (∀ k, k ≠ 0 → sp_I M' (o + 10) k = sp_I M (o + 10) k) := by
  have i0 : nI f * 43 = nI (43 * f) := by rw [show (43 : Int32) = nI 43 from rfl, nI_mul, Nat.mul_comm]
  have i1 : nI (43 * f) + 25 = nI (43 * f + 25) := nI_add _ 25
  have i2 : nI (43 * f + 25) + 6 = nI (43 * f + 25 + 6) := nI_add _ 6
  have i3 : nI (43 * f + 25 + 6) + 6 = nI (43 * f + 25 + 6 + 6) := nI_add _ 6
  have i4 : nI (43 * f + 25 + 6 + 6) + 5 = nI (43 * f + 25 + 6 + 6 + 5) := nI_add _ 5
  unfold fX5_loadMoves
  simp only [sp_do]
  rw [i0, i1, i2, i3, i4]
  have c1 : sp_cix 731 25 (nI (43 * f)) 0 25 = some (43 * f, 0, 25) := cix_1 (n := 25) (by omega) (by omega) (by omega) (by omega)
  have c2 : sp_cix 731 6 (nI (43 * f + 25)) 0 6 = some (43 * f + 25, 0, 6) := cix_1 (n := 6) (by omega) (by omega) (by omega) (by omega)
  have c3 : sp_cix 731 6 (nI (43 * f + 25 + 6)) 0 6 = some (43 * f + 25 + 6, 0, 6) := cix_1 (n := 6) (by omega) (by omega) (by omega) (by omega)
  have c4 : sp_cix 731 5 (nI (43 * f + 25 + 6 + 6)) 0 5 = some (43 * f + 25 + 6 + 6, 0, 5) := cix_1 (n := 5) (by omega) (by omega) (by omega) (by omega)
  rw [c1, Option.bind_some, c2, Option.bind_some, c3, Option.bind_some, c4, Option.bind_some, sp_ix_nI (show 43 * f + 25 + 6 + 6 + 5 < 731 by omega) (by omega), Option.bind_some]
  dsimp only
  refine ⟨_, rfl, fun k hk => ?_, fun k hk => ?_, fun k hk => ?_, fun k hk => ?_, ?_, fun k hk => ?_⟩
  · rw [I_ne _ _ _ (by omega), I_cpy_ne (by omega), I_cpy_ne (by omega), I_cpy_ne (by omega), I_cpy, if_pos (by omega), Nat.sub_zero]
  · rw [I_ne _ _ _ (by omega), I_cpy_ne (by omega), I_cpy_ne (by omega), I_cpy, if_pos (by omega), I_cpy_ne (by omega), Nat.sub_zero, show 43 * f + 25 + k = 43 * f + (25 + k) by omega]
  · rw [I_ne _ _ _ (by omega), I_cpy_ne (by omega), I_cpy, if_pos (by omega), I_cpy_ne (by omega), I_cpy_ne (by omega), Nat.sub_zero, show 43 * f + 25 + 6 + k = 43 * f + (31 + k) by omega]
  · rw [I_ne _ _ _ (by omega), I_cpy, if_pos (by omega), I_cpy_ne (by omega), I_cpy_ne (by omega), I_cpy_ne (by omega), Nat.sub_zero, show 43 * f + 25 + 6 + 6 + k = 43 * f + (37 + k) by omega]
  · rw [I_eq, I_cpy_ne (by omega), I_cpy_ne (by omega), I_cpy_ne (by omega), I_cpy_ne (by omega), show 43 * f + 25 + 6 + 6 + 5 = 43 * f + 42 by omega]
  · rw [I_nf _ _ _ hk, I_cpy_ne (by omega), I_cpy_ne (by omega), I_cpy_ne (by omega), I_cpy_ne (by omega)]
/-- undo -/
theorem op_21 {F k : Nat} {M : sp_Mem} (hF : 1000 ≤ F) (hI : Inv k M) : ∃ p, gL_21 F M = some p ∧ Inv (k + 1) p := by
  obtain ⟨lf, n, hC, hX⟩ := Inv_X hF hI
  have hB := hC.2.2.2.2.1.2
  have hR := hC.2.2.2.1
  obtain ⟨u, w, e, pc, pr, pb⟩ := U_of hI.2.2.1
  have pc' := pc
  obtain ⟨p1, p2, p3, p4, p5⟩ := pc'
  by_cases hu : u = 0
  · have e1 : fX10_undo M = some (-3, rfM M 3) := by
      unfold fX10_undo fX3_takeBack
      rw [if_pos (by rw [p3, hu]; rfl), Option.bind_some]
      have := noted_n M (c := 3) (by omega) (by omega)
      have this : fX10_noted M (-3) = _ := this
      rw [this]
      rfl
    have e2 : fX11_undo F (rfM M 3) = some (-3, tlM (sp_setI (rfM M 3) 103 0 0) 3) := by
      have h8 : sp_I (sp_setI (rfM M 3) 103 0 0) 103 8 = 0 := by
        rw [I_nf _ _ _ (by decide), rf_I _ _ (by decide) (by decide), pr.1, hu]; rfl
      unfold fX11_undo
      simp only [sp_do]
      rw [if_pos h8, tl_3]
      rfl
    exact ⟨_, glue (b := fun m => fX11_undo F m) e1 e2, Inv_ref hI⟩
  · obtain ⟨v, rfl⟩ : ∃ v, u = v + 1 := ⟨u - 1, by omega⟩
    obtain ⟨q1, q2⟩ := p5 v (by omega)
    obtain ⟨s1, s2⟩ := pr.2 v (by omega)
    obtain ⟨b1, b2, b3⟩ := pb v (by omega)
    obtain ⟨t, ht, et⟩ := n_of (n := 4) b1.1 (by have := b1.2; omega)
    let r2 : Nat → Int32 := fun j => if 5 ≤ j ∧ j < 51 then (e v).2 (j - 5) else rM M j
    have hfl : (w + v) % 17 < 17 := Nat.mod_lt _ (by omega)
    have pcv : PC (sp_setI M 18 3 (nI v)) 18 w v e := ⟨p1, by omega, I_eq _ _ _ _, by rw [I_nf _ _ _ (by decide)]; exact p4, fun k hk => by rw [I_ne _ _ _ (by decide), I_ne _ _ _ (by decide)]; exact p5 k (by omega)⟩
    obtain ⟨A, a1, a2, a3, a4, a5, a6, a7⟩ := load_e (q := 18) (o := 6) (M := sp_setI M 18 3 (nI v)) hfl (by omega)
    have e0 : fX3_takeBack M 18 6 = some (nI t, A) := by
      have hfA := frX5_loadMoves a1
      unfold fX3_takeBack
      simp only [sp_do]
      rw [if_neg (by rw [p3]; exact nI_ne0 (by omega) (by omega)), p3, nI_pred, free_e pcv, Option.bind_some, a1, Option.bind_some, sp_ix_nI hfl (by omega), Option.bind_some, hfA.1 20 _ (by decide) (by simp), I_ne _ _ _ (by decide), q1, et]
    have fA := frX3_takeBack e0
    have e1 : fX10_undo M = some (nI t, sp_setI A 0 12 0) := by
      unfold fX10_undo
      rw [e0, Option.bind_some, noted_g A (by omega)]
      rfl
    have h19 : ∀ j, sp_I (sp_setI M 18 3 (nI v)) (18 + 1) j = sp_I M 19 j := fun j => congrFun (I_ne _ _ _ (by decide)) j
    have hpm : ∀ i, i < 43 → sp_I (sp_setI M 18 3 (nI v)) (18 + 1) (43 * ((w + v) % 17) + i) = (e v).2 (i_pm i) := fun i hi => (h19 _).trans (q2 i hi)
    have f1 := fA.tr2 ((sp_fr_I (A := []) (B := [(0, 12)]) (M := A) (o := 0) (j := 12) (x := 0) (Or.inr (by decide)) rfl).tr2 (sp_fr_I (A := []) (B := [(103, 0)]) (M := sp_setI A 0 12 0) (o := 103) (j := 0) (x := 0) (Or.inr (by decide)) rfl))
    generalize hS : sp_setI (sp_setI A 0 12 0) 103 0 0 = S at f1
    let S1 := sp_setI S 103 8 (nI v)
    let B := sp_cpy S1 108 105 (46 * v) 5 46
    have h8 : sp_I S 103 8 = nI (v + 1) := by rw [f1.1 103 8 (by decide) (by decide)]; exact pr.1
    have hB8 : sp_I B 103 8 = nI v := by
      show sp_I (sp_cpy S1 108 105 (46 * v) 5 46) 103 8 = _
      rw [I_cpy_ne (by decide)]; exact I_eq _ _ _ _
    have hB109 : sp_I B 109 v = nI t := by
      show sp_I (sp_cpy S1 108 105 (46 * v) 5 46) 109 v = _
      rw [I_cpy_ne (by decide)]
      show sp_I (sp_setI S 103 8 (nI v)) 109 v = _
      rw [I_ne _ _ _ (by decide), f1.1 109 v (by decide) (by simp), s1, et]
    have e2 : fX11_undo F (sp_setI A 0 12 0) = some (nI t, sp_setI B 103 1 0) := by
      unfold fX11_undo
      simp only [sp_do]
      rw [hS, h8, if_neg (nI_ne0 (by omega) (by omega)), nI_pred]
      show ((fX11_putBack F S1 (sp_I S1 103 8)).bind _) = _
      rw [show sp_I S1 103 8 = nI v from I_eq _ _ _ _, putB_e hF (by omega), Option.bind_some]
      show ((sp_ix 16 (sp_I B 103 8)).bind _) = _
      rw [hB8, sp_ix_nI (show v < 16 by omega) (by omega), Option.bind_some]
      show ((fX11_tell B (sp_I B 109 v)).bind _) = _
      rw [hB109, tell_g _ (nI_pos' (by omega))]
      rfl
    refine ⟨_, glue (b := fun m => fX11_undo F m) e1 e2, ?_⟩
    have hr2 : ∀ j, r2 j = if 5 ≤ j ∧ j < 51 then (e v).2 (j - 5) else rM M j := fun j => rfl
    have fB : sp_fr [121, 123, 108, 109, 105, 124, 125] [(103, 34), (103, 38), (103, 39), (103, 40), (103, 8)] (sp_setI (sp_setI A 0 12 0) 103 0 0) B := by
      rw [hS]
      exact (sp_fr_I (Or.inr (by decide)) rfl).tr (sp_fr_C (by decide) rfl)
    refine Inv_deed (F := F) (r2 := r2) (u := v) (w := w) (e := e) hI (fA.mono (by decide) (by decide)) fB (Or.inr ⟨rfl, rfl⟩) ?_ ?_ (fun j hj => ?_) ?_ ?_ ?_ ?_
    · have hf0 : ∀ i j, i ≠ 7 → i ≠ 8 → i ≠ 9 → i ≠ 11 → i ≠ 16 → i ≠ 18 → sp_I A i j = sp_I M i j := fun i j g1 g2 g3 g4 g5 g6 => fA.1 i j (by simp [g1, g2, g3, g4, g5]) (by simp [g6])
      have ri : ∀ j, ¬ (5 ≤ j ∧ j < 51) → r2 j = rM M j := fun j hj => if_neg hj
      have rs : ∀ j, 5 ≤ j → j < 51 → r2 j = (e v).2 (j - 5) := fun j h1 h2 => if_pos ⟨h1, h2⟩
      refine rm_mk ?_ ?_ ?_ ?_ ?_ (fun k hk => ?_) (fun k hk => ?_) (fun k hk => ?_) (fun k hk => ?_) (fun k hk => ?_) (fun k hk => ?_) (fun k hk => ?_) (fun k hk => ?_) (fun k hk => ?_) (fun k hk => ?_)
      · rw [hf0 6 4 (by decide) (by decide) (by decide) (by decide) (by decide) (by decide), ri 0 (by omega)]; exact rm_s hR
      · rw [hf0 6 8 (by decide) (by decide) (by decide) (by decide) (by decide) (by decide), ri 1 (by omega)]; exact rm_p hR
      · rw [hf0 6 11 (by decide) (by decide) (by decide) (by decide) (by decide) (by decide), ri 2 (by omega)]; exact rm_a hR
      · rw [hf0 6 14 (by decide) (by decide) (by decide) (by decide) (by decide) (by decide), ri 3 (by omega)]; exact rm_l hR
      · rw [hf0 6 15 (by decide) (by decide) (by decide) (by decide) (by decide) (by decide), ri 4 (by omega)]; exact rm_f hR
      · rw [rs (5 + k) (by omega) (by omega), show 5 + k - 5 = k by omega]
        by_cases hk0 : k = 0
        · rw [hk0, a6, hpm 42 (by omega)]; rfl
        · rw [a7 k hk0, I_ne _ _ _ (by decide), rm_term hR hk]
          exact (b2 k (by omega) (by omega)).symm
      · rw [a3 k hk, hpm _ (by omega), rs _ (by omega) (by omega)]
        rw [show i_pm (25 + k) = 9 + k - 5 by unfold i_pm; rw [if_neg (by omega), if_pos (by omega)]; omega]
      · rw [a4 k hk, hpm _ (by omega), rs _ (by omega) (by omega)]
        rw [show i_pm (31 + k) = 15 + k - 5 by unfold i_pm; rw [if_neg (by omega), if_pos (by omega)]; omega]
      · rw [a5 k hk, hpm _ (by omega), rs _ (by omega) (by omega)]
        rw [show i_pm (37 + k) = 21 + k - 5 by unfold i_pm; rw [if_neg (by omega), if_pos (by omega)]; omega]
      · rw [a2 k hk, hpm _ (by omega), rs _ (by omega) (by omega)]
        rw [show i_pm k = 26 + k - 5 by unfold i_pm; rw [if_pos (by omega)]; omega]
      · rw [hf0 (6 + 4) k (by decide) (by decide) (by decide) (by decide) (by decide) (by decide), ri _ (by omega)]; exact rm_name hR hk
      · rw [hf0 (6 + 6) k (by decide) (by decide) (by decide) (by decide) (by decide) (by decide), ri _ (by omega)]; exact rm_reach hR hk
      · rw [hf0 (6 + 7) k (by decide) (by decide) (by decide) (by decide) (by decide) (by decide), ri _ (by omega)]; exact rm_know hR hk
      · rw [hf0 (6 + 8) k (by decide) (by decide) (by decide) (by decide) (by decide) (by decide), ri _ (by omega)]; exact rm_ask hR hk
      · rw [hf0 (6 + 9) k (by decide) (by decide) (by decide) (by decide) (by decide) (by decide), ri _ (by omega)]; exact rm_rep hR hk
    · obtain ⟨⟨c1, c2, c3, c4, c5⟩, d1, d2⟩ := hB
      have ri : ∀ j, ¬ (5 ≤ j ∧ j < 51) → r2 j = rM M j := fun j hj => if_neg hj
      have rs : ∀ j, 5 ≤ j → j < 51 → r2 j = (e v).2 (j - 5) := fun j h1 h2 => if_pos ⟨h1, h2⟩
      refine ⟨⟨?_, ?_, ?_, ?_, ?_⟩, ?_, fun i h1 h2 => ?_⟩
      · rw [ri 0 (by omega)]; exact c1
      · rw [ri 1 (by omega)]; exact c2
      · rw [ri 2 (by omega)]; exact c3
      · rw [ri 3 (by omega), ri 4 (by omega)]; exact c4
      · intro k hk
        rw [ri 2 (by omega)] at hk
        rw [ri 1 (by omega), ri _ (by omega)]
        exact c5 k hk
      · rw [rs 5 (by omega) (by omega)]
        have := b3 0 (by omega)
        rwa [lh5.1, lh5.2.1] at this
      · by_cases h51 : i < 51
        · rw [rs i (by omega) h51]
          have := b3 (i - 5) (by omega)
          rwa [show 5 + (i - 5) = i by omega] at this
        · rw [ri i (by omega)]; exact d2 i h1 h2
    · exact if_neg (by omega)
    · refine PC_cg (M := sp_setI M 18 3 (nI v)) pcv (fun j hj => ?_) (fun k hk i hi => ?_) (funext fun j => ?_)
      · have hfl2 := frX5_loadMoves a1
        exact hfl2.1 18 j (by decide) (by simp)
      · have hfl2 := frX5_loadMoves a1
        exact hfl2.1 19 _ (by decide) (by simp)
      · have hfl2 := frX5_loadMoves a1
        exact hfl2.1 20 _ (by decide) (by simp)
    · funext j
      show sp_I (sp_cpy S1 108 105 (46 * v) 5 46) 105 j = _
      rw [I_cpy, hr2]
      by_cases hj : 5 ≤ j ∧ j < 51
      · rw [if_pos (by omega), if_pos hj]
        show sp_I (sp_setI S 103 8 (nI v)) 108 _ = _
        rw [I_ne _ _ _ (by decide), f1.1 108 _ (by decide) (by simp), s2 _ (by omega)]
      · rw [if_neg (by omega), if_neg hj]
        show sp_I (sp_setI S 103 8 (nI v)) 105 j = _
        rw [I_ne _ _ _ (by decide), f1.1 105 _ (by decide) (by simp)]
    · refine ⟨hB8, fun k hk => ?_⟩
      have h109 : ∀ j, sp_I B 109 j = sp_I M 109 j := fun j => by
        show sp_I (sp_cpy S1 108 105 (46 * v) 5 46) 109 j = _
        rw [I_cpy_ne (by decide)]
        show sp_I (sp_setI S 103 8 (nI v)) 109 j = _
        rw [I_ne _ _ _ (by decide), f1.1 109 _ (by decide) (by simp)]
      have h108 : ∀ j, sp_I B 108 j = sp_I M 108 j := fun j => by
        show sp_I (sp_cpy S1 108 105 (46 * v) 5 46) 108 j = _
        rw [I_cpy_ne (by decide)]
        show sp_I (sp_setI S 103 8 (nI v)) 108 j = _
        rw [I_ne _ _ _ (by decide), f1.1 108 _ (by decide) (by simp)]
      rw [h109]
      exact ⟨(pr.2 k (by omega)).1, fun i hi => by rw [h108]; exact (pr.2 k (by omega)).2 i hi⟩
    · intro k hk
      obtain ⟨z1, z2, z3⟩ := pb k (by omega)
      refine ⟨z1, fun i h1 h2 => ?_, z3⟩
      rw [z2 i h1 h2, hr2, if_pos (by omega), show 5 + i - 5 = i by omega]
      exact (b2 i h1 h2).symm
