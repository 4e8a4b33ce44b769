/-! ===== law: its text, and a law refused ===== -/
theorem txt_of {k : Nat} {M : sp_Mem} (hI : Inv k M) : ∃ (q : Nat → Nat) (n : Nat), TXC M q n ∧ TXR M q n := by
  obtain ⟨n, hn, h1, h2, h3⟩ := hI.2.2.2.1
  have key : ∀ i, i < n → sp_I M 112 i = nI (sp_I M 112 i).toInt.toNat ∧ (sp_I M 112 i).toInt.toNat < 256 := by
    intro i hi
    obtain ⟨a, b⟩ := (h3 i hi).2
    obtain ⟨j, hj, e⟩ := n_of (n := 256) (a := sp_I M 112 i) (by omega) (by omega)
    rw [e, nI_toInt (by omega)]
    exact ⟨rfl, by omega⟩
  exact ⟨fun i => (sp_I M 112 i).toInt.toNat, n, ⟨hn, h1, fun i hi => ⟨(h3 i hi).1.trans (key i hi).1, (key i hi).2⟩⟩, ⟨hn, h2, key⟩⟩
theorem i_M_rf {M Y Z : sp_Mem} {c : Nat} (hM : i_M M) (hY : sp_I Y 102 = sp_I M 102) (hZ : sp_I Z 104 = sp_I M 104) (hZ2 : sp_I Z 102 = sp_I (rfM Y c) 102) (h12 : sp_I Z 0 12 = -(nI c)) (h13 : sp_I Z 0 13 = sp_I M 0 13) (h11 : sp_I Z 103 11 = sp_I M 103 11) (h14 : sp_I Z 0 14 = sp_I Z 103 18) (h15 : sp_I Z 0 15 = sp_I Z 103 50) (h20 : sp_I Z 103 20 = 0) : i_M (tlM Z c) := by
  obtain ⟨a1, a2, a3, a4, a5, a6⟩ := hM
  have e0 : ∀ j, sp_I (tlM Z c) 0 j = sp_I Z 0 j := fun j => by unfold tlM; rw [I_ne _ _ _ (by decide), I_ne _ _ _ (by decide)]
  have e3 : ∀ j, j ≠ 1 → sp_I (tlM Z c) 103 j = sp_I Z 103 j := fun j hj => by unfold tlM; rw [I_ne _ _ _ (by decide), I_nf _ _ _ hj]
  refine ⟨fun i hi => ?_, ?_, ?_, ?_, ?_, ?_⟩
  · have e2 : sp_I (tlM Z c) 102 = sp_I Z 102 := by unfold tlM; rw [I_ne _ _ _ (by decide), I_ne _ _ _ (by decide)]
    rw [e2, hZ2]
    unfold rfM tlM
    by_cases hc : i = c
    · subst hc
      rw [I_eq, I_eq, hY, hZ, a1 i hi]
    · rw [I_nf _ _ _ hc, I_nf _ _ _ hc, I_ne _ _ _ (by decide), I_ne _ _ _ (by decide), hY, hZ, a1 i hi]
  · rw [e0, h12]
    unfold tlM
    rw [I_ne _ _ _ (by decide), I_eq]
  · rw [e0, e3 _ (by decide), h13, h11]; exact a3
  · rw [e0, e3 _ (by decide)]; exact h14
  · rw [e0, e3 _ (by decide)]; exact h15
  · rw [e3 _ (by decide)]; exact h20
theorem i_T_0 {M : sp_Mem} (h1 : sp_I M 94 1 = 0) (h2 : sp_I M 103 13 = 0) : i_T M := ⟨0, by omega, h1, h2, fun i hi => absurd hi (by omega)⟩
abbrev rdfr (M M' : sp_Mem) : Prop := sp_fr [98, 99, 100, 101] [(94, 2), (94, 3), (94, 4), (96, 4), (96, 5), (96, 6), (96, 7), (96, 8), (97, 2), (97, 3)] M M'
section Law0
variable {F k : Nat} {M : sp_Mem}
theorem law_full (hI : Inv k M) (h6 : rM M 3 = 6) : ∃ p, gL_12 F M = some p ∧ p.2.1 ≤ 3 ∧ p.2.2 ≤ 464 ∧ Inv (k + 1) p.1 := by
  obtain ⟨hR, hB, hL⟩ := hI.2.1
  have e14 : sp_I M 6 14 = 6 := (rm_l hR).trans h6
  let Y := sp_setI M 94 1 0
  let Z := sp_setI (sp_setI (rfM Y 5) 103 0 0) 103 13 0
  have fZ : sp_fr [102] [(94, 1), (0, 12), (103, 0), (103, 13)] M Z := ((((sp_fr_I (Or.inr (by decide)) rfl).tr (sp_fr_I (Or.inr (by decide)) rfl)).tr (sp_fr_I (Or.inl (by decide)) rfl)).tr (sp_fr_I (Or.inr (by decide)) rfl)).tr (sp_fr_I (Or.inr (by decide)) rfl)
  have f2 : sp_fr [102, 104] [(94, 1), (0, 12), (103, 0), (103, 13), (103, 1)] M (tlM Z 5) := ((fZ.mono (by decide) (by decide)).tr (sp_fr_I (Or.inr (by decide)) rfl)).tr (sp_fr_I (Or.inl (by decide)) rfl)
  refine ⟨(tlM Z 5, 0, 0), ?_, Nat.zero_le _, Nat.zero_le _, ?_⟩
  · unfold gL_12 fX10_law fX11_law
    rw [if_neg (show ¬ sp_I M 6 14 < 6 by rw [e14]; decide)]
    simp only [sp_do]
    rw [rf_5, Option.bind_some, Option.bind_some]
    dsimp only
    rw [if_pos (show sp_I (sp_setI (rfM (sp_setI M 94 1 0) 5) 103 0 0) 105 3 = 6 by rw [I_ne _ _ _ (by decide), rf_I _ _ (by decide) (by decide), I_ne _ _ _ (by decide)]; exact h6), tl_5, Option.bind_some, Option.bind_some]
    dsimp only
    rw [if_pos rfl]
  · refine Inv_step f2 hI (by decide +kernel) (Or.inl (by decide +kernel)) (Or.inl (by decide +kernel)) (Or.inl (by decide +kernel)) (Or.inr (i_T_0 ?_ ?_)) (Or.inr ?_) (Or.inl (by decide +kernel)) (Or.inl (by decide +kernel)) (by decide +kernel)
    · unfold tlM
      rw [I_ne _ _ _ (by decide), I_ne _ _ _ (by decide), I_ne _ _ _ (by decide), I_ne _ _ _ (by decide), rf_I _ _ (by decide) (by decide)]
      exact I_eq _ _ _ _
    · unfold tlM
      rw [I_ne _ _ _ (by decide), I_nf _ _ _ (by decide)]
      exact I_eq _ _ _ _
    · have hM := hI.2.2.2.2.1
      refine i_M_rf (Y := Y) hM (I_ne _ _ _ (by decide)) ?_ ?_ ?_ (fZ.1 0 13 (by decide) (by decide)) (fZ.1 103 11 (by decide) (by decide)) ?_ ?_ ?_
      · rw [fr_A (SA := [104]) (SB := []) fZ (by decide) 104 (by decide)]
      · rw [I_ne _ _ _ (by decide), I_ne _ _ _ (by decide)]
      · rw [I_ne _ _ _ (by decide), I_ne _ _ _ (by decide)]
        unfold rfM
        rw [I_ne _ _ _ (by decide), I_eq]
      · rw [fZ.1 0 14 (by decide) (by decide), fZ.1 103 18 (by decide) (by decide)]; exact hM.2.2.2.1
      · rw [fZ.1 0 15 (by decide) (by decide), fZ.1 103 50 (by decide) (by decide)]; exact hM.2.2.2.2.1
      · rw [fZ.1 103 20 (by decide) (by decide)]; exact hM.2.2.2.2.2
theorem law_bad {q : Nat → Nat} {n g : Nat} (hF : 2000 ≤ F) (hI : Inv k M) (h6 : rM M 3 ≠ 6) (hTC : TXC M q n) (hTR : TXR M q n) (hg : gX q n false = .inl g) : ∃ p, gL_12 F M = some p ∧ p.2.1 ≤ 3 ∧ p.2.2 ≤ 464 ∧ Inv (k + 1) p.1 := by
  obtain ⟨hR, hB, hL⟩ := hI.2.1
  obtain ⟨nl, hnl, e3, _⟩ := hB.1.2.2.2.1
  have hW := hI.1
  have e14 : sp_I M 6 14 = nI nl := (rm_l hR).trans e3
  have nl6 : nl < 6 := by
    by_cases z : nl = 6
    · exact (h6 (by rw [e3, z]; rfl)).elim
    · omega
  obtain ⟨Mr, r1, r2, hgn⟩ := (read_c (F := F) (ord := false) (by omega) hTC (show sp_N M 99 = 400 from hW.2.2.1 99 (by decide)) (show sp_N M 98 = 60 from hW.2.2.1 98 (by decide))).1 g hg
  have hg2 : g < 2 ^ 31 := by have := hTC.1; omega
  let Y := sp_setI (sp_setI Mr 0 14 (nI g)) 94 1 0
  have fY : sp_fr [98, 99, 100, 101] [(94, 1), (94, 2), (94, 3), (94, 4), (96, 4), (96, 5), (96, 6), (96, 7), (96, 8), (97, 2), (97, 3), (0, 14)] M Y := ((r2.mono (by decide) (by decide)).tr (sp_fr_I (Or.inr (by decide)) rfl)).tr (sp_fr_I (Or.inr (by decide)) rfl)
  let M1 := sp_setI (rfM Y 6) 103 0 0
  have f1 : sp_fr [98, 99, 100, 101, 102] [(94, 1), (94, 2), (94, 3), (94, 4), (96, 4), (96, 5), (96, 6), (96, 7), (96, 8), (97, 2), (97, 3), (0, 14), (0, 12), (103, 0)] M M1 := (((fY.mono (by decide) (by decide)).tr (sp_fr_I (Or.inr (by decide)) rfl)).tr (sp_fr_I (Or.inl (by decide)) rfl)).tr (sp_fr_I (Or.inr (by decide)) rfl)
  obtain ⟨M2, b1, b2, b3, b4⟩ := begT (F := F) (ord := false) (by omega) (TXR_fr f1 hTR (by decide)) (i_C_fr f1 (by decide) hI.2.2.2.2.2.2.2.1)
  obtain ⟨M3, l1, l2, l3⟩ := (loop_law (F := F) (kx := fun M9 => fX11_law_j64 F M9) hF 12 F M2 (tkF q n 0) 0 0 [] rfl (by omega) b3 (fun i c hi => by cases hi)).1 g hg
  obtain ⟨M4, t1, t2, t3, t4, t5, t6⟩ := endT_f (F := F) l3
  have f4 : sp_fr [113, 114, 115, 116, 117, 130] [(103, 13), (103, 14), (103, 15), (103, 16), (103, 17), (103, 18), (103, 19), (103, 20), (103, 21), (103, 23), (103, 26), (103, 29), (103, 30)] M1 M4 := ((b2.mono (by decide) (by decide)).tr (l2.mono (by decide) (by decide))).tr (t2.mono (by decide) (by decide))
  have f14 : sp_fr [98, 99, 100, 101, 102, 113, 114, 115, 116, 117, 130] [(94, 1), (94, 2), (94, 3), (94, 4), (96, 4), (96, 5), (96, 6), (96, 7), (96, 8), (97, 2), (97, 3), (0, 14), (0, 12), (103, 0), (103, 13), (103, 14), (103, 15), (103, 16), (103, 17), (103, 18), (103, 19), (103, 20), (103, 21), (103, 23), (103, 26), (103, 29), (103, 30)] M M4 := (f1.mono (by decide) (by decide)).tr (f4.mono (by decide) (by decide))
  have f5 : sp_fr [98, 99, 100, 101, 102, 113, 114, 115, 116, 117, 130, 104] [(94, 1), (94, 2), (94, 3), (94, 4), (96, 4), (96, 5), (96, 6), (96, 7), (96, 8), (97, 2), (97, 3), (0, 14), (0, 12), (103, 0), (103, 13), (103, 14), (103, 15), (103, 16), (103, 17), (103, 18), (103, 19), (103, 20), (103, 21), (103, 23), (103, 26), (103, 29), (103, 30), (103, 1)] M (tlM M4 6) := ((f14.mono (by decide) (by decide)).tr (sp_fr_I (Or.inr (by decide)) rfl)).tr (sp_fr_I (Or.inl (by decide)) rfl)
  refine ⟨(tlM M4 6, 0, 0), ?_, Nat.zero_le _, Nat.zero_le _, ?_⟩
  · have c : fX10_law F M = some ((-6, rfM Y 6), 0, 0) := by
      unfold fX10_law
      rw [if_pos (show sp_I M 6 14 < 6 by rw [e14, show (6 : Int32) = nI 6 from rfl, nIlt (by omega) (by omega)]; exact nl6), show fX2_read F M 0 = some (nI g, Mr) from r1, Option.bind_some]
      simp only [sp_do]
      rw [if_neg (show ¬ sp_I (sp_setI (sp_setI Mr 0 14 (nI g)) 94 1 0) 0 14 = -1 by rw [I_ne _ _ _ (by decide), I_eq]; exact nI_m1 hg2), rf_6, Option.bind_some]
    have r : fX11_law F (rfM Y 6) = some (-6, tlM M4 6) := by
      unfold fX11_law
      simp only [sp_do]
      rw [if_neg (show ¬ sp_I M1 105 3 = 6 by
        rw [fr_A (SA := [105]) (SB := []) f1 (by decide) 105 (by decide)]
        exact h6), show fX11_beginText F (sp_setI (rfM Y 6) 103 0 0) 0 = some M2 from b1, Option.bind_some, l1]
      unfold fX11_law_j64
      rw [t1, Option.bind_some, if_neg (show ¬ sp_I M4 103 19 = 0 by rw [t3]; decide), tl_6, Option.bind_some]
    unfold gL_12
    rw [c, Option.bind_some]
    dsimp only
    rw [r, Option.bind_some]
    dsimp only
    rw [if_pos rfl]
  · refine Inv_step f5 hI (by decide +kernel) (Or.inl (by decide +kernel)) (Or.inl (by decide +kernel)) (Or.inl (by decide +kernel)) (Or.inr (i_T_0 ?_ ?_)) (Or.inr ?_) (Or.inl (by decide +kernel)) (Or.inl (by decide +kernel)) (by decide +kernel)
    · unfold tlM
      rw [I_ne _ _ _ (by decide), I_ne _ _ _ (by decide), f4.1 94 1 (by decide) (by decide), I_ne _ _ _ (by decide), rf_I _ _ (by decide) (by decide)]
      exact I_eq _ _ _ _
    · unfold tlM
      rw [I_ne _ _ _ (by decide), I_nf _ _ _ (by decide)]
      exact t6
    · have hM := hI.2.2.2.2.1
      refine i_M_rf (Y := Y) hM (fr_A (SA := [102]) (SB := []) fY (by decide) 102 (by decide)) (fr_A (SA := [104]) (SB := []) f14 (by decide) 104 (by decide)) ?_ ?_ (f14.1 0 13 (by decide) (by decide)) (f14.1 103 11 (by decide) (by decide)) ?_ ?_ t5
      · rw [fr_A (SA := [102]) (SB := []) f4 (by decide) 102 (by decide), I_ne _ _ _ (by decide)]
      · rw [f4.1 0 12 (by decide) (by decide), I_ne _ _ _ (by decide)]
        unfold rfM
        rw [I_ne _ _ _ (by decide), I_eq]
      · rw [t4, f4.1 0 14 (by decide) (by decide), I_ne _ _ _ (by decide)]
        unfold rfM
        rw [I_ne _ _ _ (by decide), I_nf _ _ _ (by decide), I_ne _ _ _ (by decide)]
        exact I_eq _ _ _ _
      · rw [f14.1 0 15 (by decide) (by decide), f14.1 103 50 (by decide) (by decide)]; exact hM.2.2.2.2.1
end Law0
