/-! ===== tokens: the reference ===== -/
section TokR
variable {F n : Nat} {q : Nat → Nat} {M M' : sp_Mem}
theorem skp_r {kx : sp_Mem → Option sp_Mem} : ∀ (m i kf : Nat) (M : sp_Mem), i + m = n → m < kf → TXR M q n → sp_I M 103 14 = nI i → ∃ M', fX11_next_l8 F kx kf M = kx M' ∧ sp_fr [] [(103, 14)] M M' ∧ sp_I M' 103 14 = nI (skp q n m i) := by
  intro m
  induction m with
  | zero =>
    intro i kf M hi hk h e3
    obtain ⟨kf, rfl⟩ : ∃ m, kf = m + 1 := ⟨kf - 1, by omega⟩
    refine ⟨M, ?_, sp_fr.refl _ _ _, e3⟩
    rw [fX11_next_l8, h.2.1, e3, if_pos (nI_le (by omega) (by have := h.1; omega))]
  | succ m ih =>
    intro i kf M hi hk h e3
    obtain ⟨kf, rfl⟩ : ∃ m, kf = m + 1 := ⟨kf - 1, by omega⟩
    have hn := h.1
    rw [fX11_next_l8, h.2.1, e3, if_neg (nI_ge (by omega) (by omega)), sp_ix_nI (show i < 400 by omega) (by omega), Option.bind_some, (h.2.2 i (by omega)).1, skp]
    by_cases z : q i = 32
    · have f1 : sp_fr [] [(103, 14)] M (sp_setI M 103 14 (nI (i + 1))) := sp_fr_I (Or.inr (by decide)) rfl
      obtain ⟨M', g1, g2, g3⟩ := ih (i + 1) kf _ (by omega) (by omega) (TXR_fr f1 h (by decide)) (I_eq _ _ _ _)
      refine ⟨M', ?_, f1.tr g2, ?_⟩
      · rw [if_pos ((srt_e _ (h.2.2 i (by omega)).2).2.2.2.2.2 z), nI_1]; exact g1
      · rw [if_pos ⟨by omega, z⟩]; exact g3
    · refine ⟨M, ?_, sp_fr.refl _ _ _, ?_⟩
      · rw [if_neg (fun w => z ((srt_e _ (h.2.2 i (by omega)).2).2.2.2.2.1 w))]
      · rw [if_neg (fun w => z w.2)]; exact e3
theorem wrd_r {kx : sp_Mem → Option sp_Mem} {f : Nat} : ∀ (m i kf : Nat) (M : sp_Mem), i + m = n → m < kf → f ≤ i → TXR M q n → sp_I M 103 14 = nI f → sp_I M 103 15 = nI i → sp_I M 103 16 = 1 → ∃ M', fX11_next_l149 F kx kf M = kx M' ∧ sp_fr [] [(103, 15), (103, 17)] M M' ∧ sp_I M' 103 15 = nI (ext q n 1 m i) ∧ sp_L M' 103 17 = wrd q f (ext q n 1 m i - i) i (sp_L M 103 17) := by
  intro m
  induction m with
  | zero =>
    intro i kf M hi hk hfi h e4 e5 e6
    obtain ⟨kf, rfl⟩ : ∃ m, kf = m + 1 := ⟨kf - 1, by omega⟩
    refine ⟨M, ?_, sp_fr.refl _ _ _, e5, by rw [ext, Nat.sub_self]; rfl⟩
    rw [fX11_next_l149, e6, if_pos rfl, h.2.1, e5, if_pos (nI_le (by omega) (by have := h.1; omega))]
  | succ m ih =>
    intro i kf M hi hk hfi h e4 e5 e6
    obtain ⟨kf, rfl⟩ : ∃ m, kf = m + 1 := ⟨kf - 1, by omega⟩
    have hn := h.1
    have hb := srt_e _ (h.2.2 i (by omega)).2
    have i4 : sp_ix 400 (nI i) = some i := sp_ix_nI (show i < 400 by omega) (by omega)
    rw [fX11_next_l149, e6, if_pos rfl, h.2.1, e5, if_neg (nI_ge (by omega) (by omega)), i4, Option.bind_some, (h.2.2 i (by omega)).1, e4, show nI i - nI f = nI (i - f) from nI_sub hfi (by omega)]
    by_cases z : srt (q i) = 1
    · have step : ∀ w : Int64, w = (if 10 ≤ i - f then -1 else sp_L M 103 17 * 32 + Int32.toInt64 (nI (q i)) - 96) → ∃ M', fX11_next_j227 F (fX11_next_l149 F kx kf) kx w M = kx M' ∧ sp_fr [] [(103, 15), (103, 17)] M M' ∧ sp_I M' 103 15 = nI (ext q n 1 (m + 1) i) ∧ sp_L M' 103 17 = wrd q f (ext q n 1 (m + 1) i - i) i (sp_L M 103 17) := by
        intro w hw
        have f1 : sp_fr [] [(103, 15), (103, 17)] M (sp_setI (sp_setL M 103 17 w) 103 15 (nI (i + 1))) := (sp_fr_L (Or.inr (by decide)) rfl).tr (sp_fr_I (Or.inr (by decide)) rfl)
        obtain ⟨M', g1, g2, g3, g4⟩ := ih (i + 1) kf _ (by omega) (by omega) (by omega) (TXR_fr f1 h (by decide)) ((f1.1 103 14 (by decide) (by decide)).trans e4) (I_eq _ _ _ _) ((f1.1 103 16 (by decide) (by decide)).trans e6)
        have hb1 := ext_b q n 1 m (i + 1) (by omega)
        rw [ext_1 (by omega) z]
        refine ⟨M', ?_, f1.tr g2, g3, ?_⟩
        · unfold fX11_next_j227
          simp only [sp_do]
          rw [show sp_I (sp_setL M 103 17 w) 103 15 = nI i from e5, nI_1]
          exact g1
        · rw [g4, show sp_L (sp_setI (sp_setL M 103 17 w) 103 15 (nI (i + 1))) 103 17 = w from L_eq _ _ _ _, show ext q n 1 m (i + 1) - i = (ext q n 1 m (i + 1) - (i + 1)) + 1 by omega, wrd, ← hw]
      rw [if_neg (fun w => (hb.2.1.1 w) z)]
      by_cases c : 10 ≤ i - f
      · rw [if_pos (show (10 : Int32) ≤ nI (i - f) from nI_le (a := 10) c (by omega))]
        exact step _ (by rw [if_pos c])
      · rw [if_neg (show ¬ (10 : Int32) ≤ nI (i - f) from nI_ge (b := 10) (by omega) (by omega)), Option.bind_some]
        exact step _ (by rw [if_neg c, (h.2.2 i (by omega)).1])
    · refine ⟨M, ?_, sp_fr.refl _ _ _, ?_, ?_⟩
      · rw [if_pos (hb.2.1.2 z)]
      · rw [ext, if_neg (fun w => z w.2)]; exact e5
      · rw [ext, if_neg (fun w => z w.2), Nat.sub_self]; rfl
theorem nmb_r {kx : sp_Mem → Option sp_Mem} : ∀ (m i kf : Nat) (M : sp_Mem), i + m = n → m < kf → TXR M q n → sp_I M 103 15 = nI i → sp_I M 103 16 = 2 → ∃ M', fX11_next_l243 F kx kf M = kx M' ∧ sp_fr [] [(103, 15), (103, 17)] M M' ∧ sp_I M' 103 15 = nI (ext q n 2 m i) ∧ sp_L M' 103 17 = nmb q (ext q n 2 m i - i) i (sp_L M 103 17) := by
  intro m
  induction m with
  | zero =>
    intro i kf M hi hk h e5 e6
    obtain ⟨kf, rfl⟩ : ∃ m, kf = m + 1 := ⟨kf - 1, by omega⟩
    refine ⟨M, ?_, sp_fr.refl _ _ _, e5, by rw [ext, Nat.sub_self]; rfl⟩
    rw [fX11_next_l243, e6, if_pos rfl, h.2.1, e5, if_pos (nI_le (by omega) (by have := h.1; omega))]
  | succ m ih =>
    intro i kf M hi hk h e5 e6
    obtain ⟨kf, rfl⟩ : ∃ m, kf = m + 1 := ⟨kf - 1, by omega⟩
    have hn := h.1
    have hb := srt_e _ (h.2.2 i (by omega)).2
    have i4 : sp_ix 400 (nI i) = some i := sp_ix_nI (show i < 400 by omega) (by omega)
    rw [fX11_next_l243, e6, if_pos rfl, h.2.1, e5, if_neg (nI_ge (by omega) (by omega)), i4, Option.bind_some, (h.2.2 i (by omega)).1]
    by_cases z : srt (q i) = 2
    · have step : ∀ w : Int64, w = (if sp_L M 103 17 ≤ 1000000 then sp_L M 103 17 * 10 + Int32.toInt64 (nI (q i)) - 48 else sp_L M 103 17) → ∃ M', fX11_next_j319 F (fX11_next_l243 F kx kf) kx w M = kx M' ∧ sp_fr [] [(103, 15), (103, 17)] M M' ∧ sp_I M' 103 15 = nI (ext q n 2 (m + 1) i) ∧ sp_L M' 103 17 = nmb q (ext q n 2 (m + 1) i - i) i (sp_L M 103 17) := by
        intro w hw
        have f1 : sp_fr [] [(103, 15), (103, 17)] M (sp_setI (sp_setL M 103 17 w) 103 15 (nI (i + 1))) := (sp_fr_L (Or.inr (by decide)) rfl).tr (sp_fr_I (Or.inr (by decide)) rfl)
        obtain ⟨M', g1, g2, g3, g4⟩ := ih (i + 1) kf _ (by omega) (by omega) (TXR_fr f1 h (by decide)) (I_eq _ _ _ _) ((f1.1 103 16 (by decide) (by decide)).trans e6)
        have hb1 := ext_b q n 2 m (i + 1) (by omega)
        rw [ext_1 (by omega) z]
        refine ⟨M', ?_, f1.tr g2, g3, ?_⟩
        · unfold fX11_next_j319
          simp only [sp_do]
          rw [show sp_I (sp_setL M 103 17 w) 103 15 = nI i from e5, nI_1]
          exact g1
        · rw [g4, show sp_L (sp_setI (sp_setL M 103 17 w) 103 15 (nI (i + 1))) 103 17 = w from L_eq _ _ _ _, show ext q n 2 m (i + 1) - i = (ext q n 2 m (i + 1) - (i + 1)) + 1 by omega, nmb, ← hw]
      rw [if_neg (fun w => (hb.2.2.1.1 w) z)]
      by_cases c : sp_L M 103 17 ≤ 1000000
      · rw [if_pos c, Option.bind_some]
        exact step _ (by rw [if_pos c, (h.2.2 i (by omega)).1])
      · rw [if_neg c]
        exact step _ (by rw [if_neg c])
    · refine ⟨M, ?_, sp_fr.refl _ _ _, ?_, ?_⟩
      · rw [if_pos (hb.2.2.1.2 z)]
      · rw [ext, if_neg (fun w => z w.2)]; exact e5
      · rw [ext, if_neg (fun w => z w.2), Nat.sub_self]; rfl
theorem l149_no {kx : sp_Mem → Option sp_Mem} (hF : 1000 ≤ F) (h : sp_I M 103 16 ≠ 1) : fX11_next_l149 F kx F M = kx M := by
  obtain ⟨F, rfl⟩ : ∃ m, F = m + 1 := ⟨F - 1, by omega⟩
  rw [fX11_next_l149, if_neg h]
theorem l243_no {kx : sp_Mem → Option sp_Mem} (hF : 1000 ≤ F) (h : sp_I M 103 16 ≠ 2) : fX11_next_l243 F kx F M = kx M := by
  obtain ⟨F, rfl⟩ : ∃ m, F = m + 1 := ⟨F - 1, by omega⟩
  rw [fX11_next_l243, if_neg h]
theorem next_r (hF : 1000 ≤ F) (h : TXR M q n) {t : Nat} (ht : t ≤ n) (e : sp_I M 103 15 = nI t) : ∃ M', fX11_next F M = some M' ∧ sp_fr [] [(103, 14), (103, 15), (103, 16), (103, 17)] M M' ∧ TXR M' q n ∧ TKR M' q n (tkF q n t) := by
  have hn := h.1
  have f0 : sp_fr [] [(103, 14)] M (sp_setI M 103 14 (sp_I M 103 15)) := sp_fr_I (Or.inr (by decide)) rfl
  obtain ⟨M1, e1, e2, e3⟩ := skp_r (F := F) (kx := fun M6 => fX11_next_j46 F M6) (n - t) t F _ (by omega) (by omega) (TXR_fr f0 h (by decide)) ((I_eq _ _ _ _).trans e)
  have e3 : sp_I M1 103 14 = nI (tkF q n t) := e3
  have hf := (tkF_b (q := q) ht).2
  generalize hg : tkF q n t = f at e3 hf ⊢
  have f1 := f0.tr e2
  have h1 := TXR_fr f1 h (by decide)
  let M2 := sp_setL (sp_setI M1 103 15 (nI f)) 103 17 0
  let M3 := sp_setI M2 103 16 (nI (tkS q n f))
  have f3 : sp_fr [] [(103, 14), (103, 15), (103, 16), (103, 17)] M M3 := (((f1.mono (by decide) (by decide)).tr (sp_fr_I (Or.inr (by decide)) rfl)).tr (sp_fr_L (Or.inr (by decide)) rfl)).tr (sp_fr_I (Or.inr (by decide)) rfl)
  have h3 := TXR_fr f3 h (by decide)
  have a4 : sp_I M3 103 14 = nI f := (I_nf _ _ _ (by decide)).trans ((show sp_I M2 103 14 = sp_I (sp_setI M1 103 15 (nI f)) 103 14 from rfl).trans ((I_nf _ _ _ (by decide)).trans e3))
  have a5 : sp_I M3 103 15 = nI f := (I_nf _ _ _ (by decide)).trans ((show sp_I M2 103 15 = sp_I (sp_setI M1 103 15 (nI f)) 103 15 from rfl).trans (I_eq _ _ _ _))
  have a6 : sp_I M3 103 16 = nI (tkS q n f) := I_eq _ _ _ _
  have a7 : sp_L M3 103 17 = 0 := L_eq _ _ _ _
  have start : fX11_next F M = fX11_next_j114 F (nI (tkS q n f)) M2 := by
    refine (show fX11_next F M = _ from e1).trans ?_
    unfold fX11_next_j46
    simp only [sp_do]
    rw [e3]
    have b4 : sp_I M2 103 14 = nI f := (show sp_I M2 103 14 = sp_I (sp_setI M1 103 15 (nI f)) 103 14 from rfl).trans ((I_nf _ _ _ (by decide)).trans e3)
    have b13 : sp_I M2 103 13 = nI n := (show sp_I M2 103 13 = sp_I (sp_setI M1 103 15 (nI f)) 103 13 from rfl).trans ((I_nf _ _ _ (by decide)).trans h1.2.1)
    rw [show sp_I (sp_setL (sp_setI M1 103 15 (nI f)) 103 17 0) 103 14 = nI f from b4, show sp_I (sp_setL (sp_setI M1 103 15 (nI f)) 103 17 0) 103 13 = nI n from b13]
    unfold tkS
    by_cases z : f < n
    · have hb := srt_e _ (h.2.2 f z).2
      have b112 : sp_I (sp_setL (sp_setI M1 103 15 (nI f)) 103 17 0) 112 f = nI (q f) := (show sp_I (sp_setL (sp_setI M1 103 15 (nI f)) 103 17 0) 112 f = sp_I (sp_setI M1 103 15 (nI f)) 112 f from rfl).trans ((congrFun (I_ne M1 _ _ (by decide)) f).trans (h1.2.2 f z).1)
      rw [if_neg (by rw [nIe (by omega) (by omega)]; omega), sp_ix_nI (show f < 400 by omega) (by omega), Option.bind_some, Option.bind_some, b112, if_pos z]
      rcases hb.2.2.2.1 with w | w | w
      · rw [if_neg (fun y => hb.2.1.1 y w), w]; rfl
      · rw [if_pos (hb.2.1.2 (by omega)), if_neg (fun y => hb.2.2.1.1 y w), w]; rfl
      · rw [if_pos (hb.2.1.2 (by omega)), if_pos (hb.2.2.1.2 (by omega)), w]; rfl
    · rw [if_pos (by rw [show f = n by omega]), if_neg z]; rfl
  rw [start]
  unfold fX11_next_j114
  simp only [sp_do]
  rw [show sp_I (sp_setI M2 103 16 (nI (tkS q n f))) 103 16 = nI (tkS q n f) from a6]
  by_cases z : f < n
  · have hb := srt_e _ (h.2.2 f z).2
    have hS : tkS q n f = srt (q f) := if_pos z
    rcases hb.2.2.2.1 with w | w | w
    · have w1 : tkS q n f = 1 := hS.trans w
      rw [if_neg (by rw [w1]; decide)]
      obtain ⟨M4, g1, g2, g3, g4⟩ := wrd_r (F := F) (f := f) (kx := fun M24 => fX11_next_l243 F (fun M33 => some M33) F M24) (n - f) f F M3 (by omega) (by omega) (by omega) h3 a4 a5 (by rw [a6, w1]; rfl)
      have b6 : sp_I M4 103 16 = nI (tkS q n f) := (g2.1 103 16 (by decide) (by decide)).trans a6
      have hT : tkT q n f = ext q n 1 (n - f) f := by unfold tkT; rw [w1, if_neg (by decide), if_neg (by decide)]
      refine ⟨M4, ?_, f3.tr (g2.mono (by decide) (by decide)), TXR_fr g2 h3 (by decide), hf, (g2.1 103 14 (by decide) (by decide)).trans a4, by rw [hT]; exact g3, b6, ?_⟩
      · refine g1.trans ?_
        rw [l243_no hF (by rw [b6, w1]; decide)]
      · rw [g4, a7]; unfold tkW; rw [if_pos w1, hT]
    · have w1 : tkS q n f = 2 := hS.trans w
      rw [if_neg (by rw [w1]; decide)]
      obtain ⟨M4, g1, g2, g3, g4⟩ := nmb_r (F := F) (kx := fun M33 => some M33) (n - f) f F M3 (by omega) (by omega) h3 a5 (by rw [a6, w1]; rfl)
      have b6 : sp_I M4 103 16 = nI (tkS q n f) := (g2.1 103 16 (by decide) (by decide)).trans a6
      have hT : tkT q n f = ext q n 2 (n - f) f := by unfold tkT; rw [w1, if_neg (by decide), if_neg (by decide)]
      refine ⟨M4, ?_, f3.tr (g2.mono (by decide) (by decide)), TXR_fr g2 h3 (by decide), hf, (g2.1 103 14 (by decide) (by decide)).trans a4, by rw [hT]; exact g3, b6, ?_⟩
      · rw [l149_no hF (show sp_I (sp_setI M2 103 16 (nI (tkS q n f))) 103 16 ≠ 1 by rw [show sp_I (sp_setI M2 103 16 (nI (tkS q n f))) 103 16 = nI (tkS q n f) from a6, w1]; decide)]
        exact g1
      · rw [g4, a7]; unfold tkW; rw [if_neg (by omega), if_pos w1, hT]
    · have w1 : tkS q n f = 3 := hS.trans w
      have b4 : sp_I (sp_setI M2 103 16 (nI (tkS q n f))) 103 14 = nI f := a4
      have b112 : sp_I (sp_setI M2 103 16 (nI (tkS q n f))) 112 f = nI (q f) := (h3.2.2 f z).1
      have b5 : sp_I (sp_setL (sp_setI M2 103 16 (nI (tkS q n f))) 103 17 (Int32.toInt64 (nI (q f)))) 103 15 = nI f := a5
      rw [if_pos (by rw [w1]; rfl), b4, sp_ix_nI (show f < 400 by omega) (by omega), Option.bind_some, b112, b5, nI_1]
      let M4 := sp_setI (sp_setL M3 103 17 (Int32.toInt64 (nI (q f)))) 103 15 (nI (f + 1))
      have f4 : sp_fr [] [(103, 14), (103, 15), (103, 16), (103, 17)] M3 M4 := (sp_fr_L (Or.inr (by decide)) rfl).tr (sp_fr_I (Or.inr (by decide)) rfl)
      have c6 : sp_I M4 103 16 = nI (tkS q n f) := (I_nf _ _ _ (by decide)).trans a6
      refine ⟨M4, ?_, f3.tr f4, TXR_fr f4 h3 (by decide), hf, (I_nf _ _ _ (by decide)).trans a4, ?_, c6, ?_⟩
      · rw [l149_no (M := M4) hF (by rw [c6, w1]; decide), l243_no (M := M4) hF (by rw [c6, w1]; decide)]
      · refine (I_eq _ _ _ _).trans ?_
        unfold tkT; rw [w1, if_neg (by decide), if_pos rfl]
      · refine (show sp_L M4 103 17 = sp_L (sp_setL M3 103 17 (Int32.toInt64 (nI (q f)))) 103 17 from rfl).trans ((L_eq _ _ _ _).trans ?_)
        unfold tkW; rw [w1, if_neg (by decide), if_neg (by decide), if_pos rfl]
  · have w1 : tkS q n f = 0 := if_neg z
    rw [if_neg (by rw [w1]; decide)]
    refine ⟨M3, ?_, f3, h3, hf, a4, ?_, a6, ?_⟩
    · rw [l149_no (M := M3) hF (by rw [a6, w1]; decide), l243_no (M := M3) hF (by rw [a6, w1]; decide)]
    · rw [a5]; unfold tkT; rw [if_pos w1]
    · rw [a7]; unfold tkW; rw [w1, if_neg (by decide), if_neg (by decide), if_neg (by decide)]
end TokR
