/-! ===== orders: refused in the run, and granted ===== -/
section Ord5
variable {F k : Nat} {M : sp_Mem}
theorem ord_fail {q : Nat → Nat} {n : Nat} {cl : List GC} {M7 : sp_Mem} {lf : Option (List ev_C)} {ns np u w len j : Nat} {e : Pe} (hF : 2000 ≤ F) (hI : Inv k M) (hTR : TXR M q n) (hg : gX q n true = .inr cl) (hs : ∀ c ∈ cl, sumsOk c)
  (hX : RX F M (rM M) lf ns 999) (pc : PC M 18 w u e) (pr : PR M u e) (hS : SOK (rM M) ns np (rM M, u, e, 0, -1) 0) (hO : OCC F M7 len cl (rM M, u, e, 0, -1) lf ns) (h972 : sp_I M7 97 2 = nI cl.length) (w7 : sp_WS M7) (f7 : sp_fr [98, 99, 100, 101, 24, 25, 26, 27, 28, 29, 30, 31, 32, 33, 34, 36, 37] [(94, 1), (94, 2), (94, 3), (94, 4), (96, 4), (96, 5), (96, 6), (96, 7), (96, 8), (97, 2), (97, 3), (0, 14), (0, 15), (23, 4), (23, 8), (23, 11), (23, 14), (23, 15), (35, 2), (35, 3), (22, 5), (22, 4)] M M7) (h14 : sp_I M7 0 14 = -1) (h94 : sp_I M7 94 1 = 0) (hT : ∀ c ∈ cl, tT c) (hc : fX10_orders F M = fX10_orders_l60 F (fun M13 => (fX7_copyFrom F M13 5 22).bind fun M14 => (fX10_grant M14 (sp_I M14 22 5)).bind fun x15 => some (x15.1, x15.2)) F 0 M7) (hj : ruO lf ns np cl 0 (rM M, u, e, 0, -1) = .inl j) : ∃ p, gL_13 F M = some p ∧ Inv (k + 1) p := by
  have hlen12 : cl.length ≤ 12 := hO.2.2.2.2.2.2.2.2.2.2
  obtain ⟨Mf, a1, a2⟩ := (cls_c (kx := fun M13 => (fX7_copyFrom F M13 5 22).bind fun M14 => (fX10_grant M14 (sp_I M14 22 5)).bind fun x15 => some (x15.1, x15.2)) (show 1000 ≤ F by omega) hs cl 0 F 0 M7 (rM M, u, e, 0, -1) rfl (by omega) h972 hO hS (by omega) (Nat.zero_le _)).1 j hj
  let Y := sp_setI Mf 0 15 (nI j)
  let Mc := rfM Y 3
  have fY : sp_fr [98, 99, 100, 101, 24, 25, 26, 27, 28, 29, 30, 31, 32, 33, 34, 36, 37, 38, 3, 4] [(94, 1), (94, 2), (94, 3), (94, 4), (96, 4), (96, 5), (96, 6), (96, 7), (96, 8), (97, 2), (97, 3), (0, 14), (0, 15), (23, 4), (23, 8), (23, 11), (23, 14), (23, 15), (35, 2), (35, 3), (22, 5), (22, 4)] M Y := ((f7.mono (by decide) (by decide)).tr (a2.mono (by decide) (by decide))).tr (sp_fr_I (Or.inr (by decide)) rfl)
  have fc0 : sp_fr [102] [(0, 12)] Y Mc := (sp_fr_I (Or.inr (by decide)) rfl).tr (sp_fr_I (Or.inl (by decide)) rfl)
  have fc : sp_fr [98, 99, 100, 101, 24, 25, 26, 27, 28, 29, 30, 31, 32, 33, 34, 36, 37, 38, 3, 4, 102] [(94, 1), (94, 2), (94, 3), (94, 4), (96, 4), (96, 5), (96, 6), (96, 7), (96, 8), (97, 2), (97, 3), (0, 14), (0, 15), (23, 4), (23, 8), (23, 11), (23, 14), (23, 15), (35, 2), (35, 3), (22, 5), (22, 4), (0, 12)] M Mc := (fY.mono (by decide) (by decide)).tr (fc0.mono (by decide) (by decide))
  have wMf : sp_WS Mf := WS_fr0 a2 (by decide +kernel) (by decide +kernel) w7
  have fYf : sp_fr [102] [(0, 12), (0, 15)] Mf Mc := ((sp_fr_I (Or.inr (by decide)) rfl : sp_fr [102] [(0, 12), (0, 15)] Mf Y)).tr (fc0.mono (by decide) (by decide))
  have wc : sp_WS Mc := WS_fr0 fYf (by decide +kernel) (by decide +kernel) wMf
  have c105 : sp_I Mc 105 = sp_I M 105 := fr_A (SA := [105]) (SB := []) fc (by decide) 105 (by decide)
  have c108 : sp_I Mc 108 = sp_I M 108 := fr_A (SA := [108]) (SB := []) fc (by decide) 108 (by decide)
  have c109 : sp_I Mc 109 = sp_I M 109 := fr_A (SA := [109]) (SB := []) fc (by decide) 109 (by decide)
  have hXc : RX F Mc (rM M) lf ns 999 := RX_of hX (fc.1 103 20 (by decide) (by decide)) c105
  have prc : PR Mc u e := PR_fr pr fc (by decide) (by simp) (by simp)
  obtain ⟨M8, len', o1, o2, o3, o4, o5, o6, o7, o8, o9, o10⟩ := ord_r0 hF (TXR_fr fc hTR (by decide)) (i_C_fr fc (by decide) hI.2.2.2.2.2.2.2.1) hg hXc prc pc.2.1
  obtain ⟨M9, g1, g2, g3, Sx, Bx, g4, g5⟩ := (cls_r (kx := fun M39 => (fX11_tell M39 (sp_I M39 103 48)).bind fun x40 => some (x40.1, x40.2)) (a1 := nI u) (show 1000 ≤ F by omega) hs hT cl 0 F 0 M8 (rM M, u, e, 0, -1) rfl (by omega) o2 o1 hS (Nat.zero_le _)).1 j hj
  let G1 := sp_cpy M9 108 105 782 5 46
  let G2 := sp_cpy G1 110 108 0 0 736
  let G3 := sp_cpy G2 111 109 0 0 16
  let G4 := sp_setI G3 103 8 (nI u)
  let G5 := sp_setI G4 103 50 (nI j)
  have gb : fX11_giveBack F M9 (nI u) = some G4 := gb_e (by omega)
  have fg := frX11_giveBack gb
  have f95 : sp_fr [105, 108, 109] [(103, 8), (103, 50)] M9 G5 := (fg.mono (by decide) (by decide)).tr (sp_fr_I (Or.inr (by decide)) rfl)
  have fE : sp_fr [113, 114, 115, 116, 117, 130, 108, 110, 111, 122, 123, 121, 109, 105, 124, 125] [(103, 0), (103, 50), (103, 13), (103, 14), (103, 15), (103, 16), (103, 17), (103, 18), (103, 19), (103, 20), (103, 21), (103, 23), (103, 26), (103, 29), (103, 30), (103, 48), (103, 49), (103, 51), (103, 38), (103, 39), (103, 34), (103, 40), (103, 8)] Mc G5 := ((o6.mono (by decide) (by decide)).tr (g2.mono (by decide) (by decide))).tr (f95.mono (by decide) (by decide))
  let Z := tlM G5 3
  have fZ0 : sp_fr [104] [(103, 1)] G5 Z := (sp_fr_I (Or.inr (by decide)) rfl).tr (sp_fr_I (Or.inl (by decide)) rfl)
  have fM5 : sp_fr [98, 99, 100, 101, 24, 25, 26, 27, 28, 29, 30, 31, 32, 33, 34, 36, 37, 38, 3, 4, 102, 113, 114, 115, 116, 117, 130, 108, 110, 111, 122, 123, 121, 109, 105, 124, 125] [(94, 1), (94, 2), (94, 3), (94, 4), (96, 4), (96, 5), (96, 6), (96, 7), (96, 8), (97, 2), (97, 3), (0, 14), (0, 15), (23, 4), (23, 8), (23, 11), (23, 14), (23, 15), (35, 2), (35, 3), (22, 5), (22, 4), (0, 12), (103, 0), (103, 50), (103, 13), (103, 14), (103, 15), (103, 16), (103, 17), (103, 18), (103, 19), (103, 20), (103, 21), (103, 23), (103, 26), (103, 29), (103, 30), (103, 48), (103, 49), (103, 51), (103, 38), (103, 39), (103, 34), (103, 40), (103, 8)] M G5 := (fc.mono (by decide) (by decide)).tr (fE.mono (by decide) (by decide))
  have fM : sp_fr [98, 99, 100, 101, 24, 25, 26, 27, 28, 29, 30, 31, 32, 33, 34, 36, 37, 38, 3, 4, 102, 113, 114, 115, 116, 117, 130, 108, 110, 111, 122, 123, 121, 109, 105, 124, 125, 104] [(94, 1), (94, 2), (94, 3), (94, 4), (96, 4), (96, 5), (96, 6), (96, 7), (96, 8), (97, 2), (97, 3), (0, 14), (0, 15), (23, 4), (23, 8), (23, 11), (23, 14), (23, 15), (35, 2), (35, 3), (22, 5), (22, 4), (0, 12), (103, 0), (103, 50), (103, 13), (103, 14), (103, 15), (103, 16), (103, 17), (103, 18), (103, 19), (103, 20), (103, 21), (103, 23), (103, 26), (103, 29), (103, 30), (103, 48), (103, 49), (103, 51), (103, 38), (103, 39), (103, 34), (103, 40), (103, 8), (103, 1)] M Z := (fM5.mono (by decide) (by decide)).tr (fZ0.mono (by decide) (by decide))
  -- the row is as it was
  have z105 : rM Z = rM M := by
    funext i
    have e1 : sp_I Z 105 i = sp_I G5 105 i := fZ0.1 105 i (by decide) (by simp)
    show sp_I Z 105 i = _
    rw [e1, I_ne _ _ _ (by decide), I_ne _ _ _ (by decide), I_cpy_ne (by decide), I_cpy_ne (by decide), I_cpy]
    by_cases hi : 5 ≤ i ∧ i < 5 + 46
    · rw [if_pos hi, g3 _ (by omega), show 782 + (i - 5) = 782 + (i - 5) from rfl, o9 (i - 5) (by omega), show 5 + (i - 5) = i by omega]
    · rw [if_neg hi, show sp_I M9 105 i = Sx.1 i from RX_r g4.1 i]
      exact g5.2.2.2.2.2.2.1 i (by omega)
  have z108 : ∀ i, i < 736 → sp_I Z 108 i = sp_I M 108 i := fun i hi => by
    rw [fZ0.1 108 i (by decide) (by simp), I_ne _ _ _ (by decide), I_ne _ _ _ (by decide), I_cpy_ne (by decide), I_cpy_at hi, I_cpy_ne (by decide), g2.1 110 i (by decide) (by simp), o7 i hi, c108]
  have z109 : ∀ i, i < 16 → sp_I Z 109 i = sp_I M 109 i := fun i hi => by
    rw [fZ0.1 109 i (by decide) (by simp), I_ne _ _ _ (by decide), I_ne _ _ _ (by decide), I_cpy_at hi, I_cpy_ne (by decide), I_cpy_ne (by decide), g2.1 111 i (by decide) (by simp), o8 i hi, c109]
  have z8 : sp_I Z 103 8 = nI u := by rw [fZ0.1 103 8 (by decide) (by decide), I_nf _ _ _ (by decide)]; exact I_eq _ _ _ _
  have wZ : sp_WS Z := WS_fr0 ((fE.mono (by decide) (by decide)).tr (fZ0.mono (by decide) (by decide)) : sp_fr [113, 114, 115, 116, 117, 130, 108, 110, 111, 122, 123, 121, 109, 105, 124, 125, 104] [(103, 0), (103, 50), (103, 13), (103, 14), (103, 15), (103, 16), (103, 17), (103, 18), (103, 19), (103, 20), (103, 21), (103, 23), (103, 26), (103, 29), (103, 30), (103, 48), (103, 49), (103, 51), (103, 38), (103, 39), (103, 34), (103, 40), (103, 8), (103, 1)] Mc Z) (by decide +kernel) (by decide +kernel) wc
  refine ⟨Z, ?_, ?_⟩
  · have c : fX10_orders F M = some (-3, Mc) := hc.trans a1
    have r : fX11_orders F Mc = some (-3, Z) := by
      rw [o10]
      refine Eq.trans g1 ?_
      unfold fbO
      rw [gb, Option.bind_some]
      simp only [sp_do]
      rw [tl_3, Option.bind_some]
    unfold gL_13
    rw [c, Option.bind_some]
    dsimp only
    rw [r, Option.bind_some]
    dsimp only
    rw [if_pos rfl]
  · obtain ⟨hR, hB, hL⟩ := hI.2.1
    refine Inv_step fM hI (by decide +kernel) (Or.inr wZ) (Or.inr ⟨?_, by rw [z105]; exact hB, ?_⟩) (Or.inr ?_) (Or.inr (i_T_0 ?_ ?_)) (Or.inr ?_) (Or.inl (by decide +kernel)) (Or.inl (by decide +kernel)) (by decide +kernel)
    · rw [z105]
      unfold i_Room
      rw [rowOf_6 fM (by decide +kernel)]
      exact hR
    · rw [z105]
      exact i_Law_fr fM (by decide +kernel) (fun j _ => by rw [fr_P fM (SA := [17]) (SB := []) (by decide +kernel) 17 (by decide)]) rfl (fun _ _ _ => rfl) (r3_le hB) hL
    · rw [z105]
      have hu16 : u ≤ 16 := pc.2.1
      refine U_to (PC_fr pc fM (by decide) (by simp) (by simp)) ⟨z8, fun kk hkk => ⟨by rw [z109 kk (by omega)]; exact (pr.2 kk hkk).1, fun i hi => by rw [z108 _ (by omega)]; exact (pr.2 kk hkk).2 i hi⟩⟩ hS.2.2.1
    · rw [fZ0.1 94 1 (by decide) (by decide), fE.1 94 1 (by decide) (by decide), fYf.1 94 1 (by decide) (by decide), a2.1 94 1 (by decide) (by decide)]; exact h94
    · rw [fZ0.1 103 13 (by decide) (by decide), f95.1 103 13 (by decide) (by decide), g2.1 103 13 (by decide) (by decide)]; exact o5
    · have hM := hI.2.2.2.2.1
      have rf0 : ∀ j, j ≠ 12 → sp_I Mc 0 j = sp_I Y 0 j := fun j hj => fc0.1 0 j (by decide) (by simp [hj])
      refine i_M_rf (Y := Y) hM (fr_A (SA := [102]) (SB := []) fY (by decide) 102 (by decide)) (fr_A (SA := [104]) (SB := []) fM5 (by decide) 104 (by decide)) (fr_A (SA := [102]) (SB := []) fE (by decide) 102 (by decide)) ?_ (fM5.1 0 13 (by decide) (by decide)) (fM5.1 103 11 (by decide) (by decide)) ?_ ?_ ?_
      · rw [fE.1 0 12 (by decide) (by decide)]
        show sp_I (rfM Y 3) 0 12 = _
        unfold rfM
        rw [I_ne _ _ _ (by decide), I_eq]
      · rw [fE.1 0 14 (by decide) (by decide), rf0 14 (by decide), I_nf _ _ _ (by decide), a2.1 0 14 (by decide) (by decide), h14, f95.1 103 18 (by decide) (by decide), g2.1 103 18 (by decide) (by decide), o3]
      · rw [fE.1 0 15 (by decide) (by decide), rf0 15 (by decide), I_eq]
        exact (I_eq _ _ _ _).symm
      · rw [f95.1 103 20 (by decide) (by decide)]; exact g4.1.2.1
theorem ord_ok {q : Nat → Nat} {n : Nat} {cl : List GC} {M7 : sp_Mem} {lf : Option (List ev_C)} {ns np u w len : Nat} {e : Pe} {S' : OS} (hF : 2000 ≤ F) (hI : Inv k M) (hTR : TXR M q n) (hg : gX q n true = .inr cl) (hs : ∀ c ∈ cl, sumsOk c)
  (hX : RX F M (rM M) lf ns 999) (pc : PC M 18 w u e) (pr : PR M u e) (hS : SOK (rM M) ns np (rM M, u, e, 0, -1) 0) (hO : OCC F M7 len cl (rM M, u, e, 0, -1) lf ns) (h972 : sp_I M7 97 2 = nI cl.length) (w7 : sp_WS M7) (hP34 : ∀ j, j < 6 → sp_P M7 34 j = sp_P M 17 j) (f7 : sp_fr [98, 99, 100, 101, 24, 25, 26, 27, 28, 29, 30, 31, 32, 33, 34, 36, 37] [(94, 1), (94, 2), (94, 3), (94, 4), (96, 4), (96, 5), (96, 6), (96, 7), (96, 8), (97, 2), (97, 3), (0, 14), (0, 15), (23, 4), (23, 8), (23, 11), (23, 14), (23, 15), (35, 2), (35, 3), (22, 5), (22, 4)] M M7) (h14 : sp_I M7 0 14 = -1) (h15 : sp_I M7 0 15 = -1) (h94 : sp_I M7 94 1 = 0) (hT : ∀ c ∈ cl, tT c) (hc : fX10_orders F M = fX10_orders_l60 F (fun M13 => (fX7_copyFrom F M13 5 22).bind fun M14 => (fX10_grant M14 (sp_I M14 22 5)).bind fun x15 => some (x15.1, x15.2)) F 0 M7) (hj : ruO lf ns np cl 0 (rM M, u, e, 0, -1) = .inr S') : ∃ p, gL_13 F M = some p ∧ Inv (k + 1) p := by
  have hlen12 : cl.length ≤ 12 := hO.2.2.2.2.2.2.2.2.2.2
  obtain ⟨⟨Mf, a1, a2, a3⟩, hS'⟩ := (cls_c (kx := fun M13 => (fX7_copyFrom F M13 5 22).bind fun M14 => (fX10_grant M14 (sp_I M14 22 5)).bind fun x15 => some (x15.1, x15.2)) (show 1000 ≤ F by omega) hs cl 0 F 0 M7 (rM M, u, e, 0, -1) rfl (by omega) h972 hO hS (by omega) (Nat.zero_le _)).2 S' hj
  have wMf : sp_WS Mf := WS_fr0 a2 (by decide +kernel) (by decide +kernel) w7
  obtain ⟨hCf, ⟨w', hPf⟩, hf5, hf4, _⟩ := a3
  obtain ⟨D1, c1, c2, c3, c4, c5⟩ := copy_CX (o0 := 6) hCf (Or.inr (by decide)) (by decide) (by decide) (Or.inl rfl) (Or.inr (Or.inl rfl))
  have pD1 : PC D1 35 w' S'.2.1 S'.2.2.1 := PC_fr hPf c5 (by decide) (by simp) (by simp)
  obtain ⟨D2, d1, d2⟩ := pcp_c (a := 35) (b := 18) (Or.inr (by decide)) pD1
  have fD2 := frX3_copyFrom d1
  have hC2 : CX F D2 6 S'.1 lf ns 999 := CX_fr3 fD2 c2 (by decide) (by decide)
  have wD1 := c3 wMf
  have wD2 : sp_WS D2 := WS_fr0 fD2 (by decide +kernel) (by decide +kernel) wD1
  let Mc := sp_setI D2 0 12 0
  have fc0 : sp_fr [] [(0, 12)] D2 Mc := sp_fr_I (Or.inr (by decide)) rfl
  have wc : sp_WS Mc := WS_fr0 fc0 (by decide +kernel) (by decide +kernel) wD2
  have ffc : sp_fr [7, 8, 9, 10, 11, 12, 13, 14, 15, 16, 17, 19, 20] [(6, 4), (6, 8), (6, 11), (6, 14), (6, 15), (18, 2), (18, 3), (0, 12)] Mf Mc := ((c5.mono (by decide) (by decide)).tr (fD2.mono (by decide) (by decide))).tr (fc0.mono (by decide) (by decide))
  have fc : sp_fr [98, 99, 100, 101, 24, 25, 26, 27, 28, 29, 30, 31, 32, 33, 34, 36, 37, 38, 3, 4, 7, 8, 9, 10, 11, 12, 13, 14, 15, 16, 17, 19, 20] [(94, 1), (94, 2), (94, 3), (94, 4), (96, 4), (96, 5), (96, 6), (96, 7), (96, 8), (97, 2), (97, 3), (0, 14), (0, 15), (23, 4), (23, 8), (23, 11), (23, 14), (23, 15), (35, 2), (35, 3), (22, 5), (22, 4), (6, 4), (6, 8), (6, 11), (6, 14), (6, 15), (18, 2), (18, 3), (0, 12)] M Mc := ((f7.mono (by decide) (by decide)).tr (a2.mono (by decide) (by decide))).tr (ffc.mono (by decide) (by decide))
  have c105 : sp_I Mc 105 = sp_I M 105 := fr_A (SA := [105]) (SB := []) fc (by decide) 105 (by decide)
  have hXc : RX F Mc (rM M) lf ns 999 := RX_of hX (fc.1 103 20 (by decide) (by decide)) c105
  have prc : PR Mc u e := PR_fr pr fc (by decide) (by simp) (by simp)
  obtain ⟨M8, len', o1, o2, o3, o4, o5, o6, o7, o8, o9, o10⟩ := ord_r0 hF (TXR_fr fc hTR (by decide)) (i_C_fr fc (by decide) hI.2.2.2.2.2.2.2.1) hg hXc prc pc.2.1
  obtain ⟨M9, g1, g2, g4⟩ := (cls_r (kx := fun M39 => (fX11_tell M39 (sp_I M39 103 48)).bind fun x40 => some (x40.1, x40.2)) (a1 := nI u) (show 1000 ≤ F by omega) hs hT cl 0 F 0 M8 (rM M, u, e, 0, -1) rfl (by omega) o2 o1 hS (Nat.zero_le _)).2 S' hj
  let Z := sp_setI M9 103 1 0
  have fZ0 : sp_fr [] [(103, 1)] M9 Z := sp_fr_I (Or.inr (by decide)) rfl
  have fE : sp_fr [113, 114, 115, 116, 117, 130, 108, 110, 111, 122, 123, 121, 109, 105, 124, 125] [(103, 0), (103, 50), (103, 13), (103, 14), (103, 15), (103, 16), (103, 17), (103, 18), (103, 19), (103, 20), (103, 21), (103, 23), (103, 26), (103, 29), (103, 30), (103, 48), (103, 49), (103, 51), (103, 38), (103, 39), (103, 34), (103, 40), (103, 8), (103, 1)] Mc Z := ((o6.mono (by decide) (by decide)).tr (g2.mono (by decide) (by decide))).tr (fZ0.mono (by decide) (by decide))
  have fM : sp_fr [98, 99, 100, 101, 24, 25, 26, 27, 28, 29, 30, 31, 32, 33, 34, 36, 37, 38, 3, 4, 7, 8, 9, 10, 11, 12, 13, 14, 15, 16, 17, 19, 20, 113, 114, 115, 116, 117, 130, 108, 110, 111, 122, 123, 121, 109, 105, 124, 125] [(94, 1), (94, 2), (94, 3), (94, 4), (96, 4), (96, 5), (96, 6), (96, 7), (96, 8), (97, 2), (97, 3), (0, 14), (0, 15), (23, 4), (23, 8), (23, 11), (23, 14), (23, 15), (35, 2), (35, 3), (22, 5), (22, 4), (6, 4), (6, 8), (6, 11), (6, 14), (6, 15), (18, 2), (18, 3), (0, 12), (103, 0), (103, 50), (103, 13), (103, 14), (103, 15), (103, 16), (103, 17), (103, 18), (103, 19), (103, 20), (103, 21), (103, 23), (103, 26), (103, 29), (103, 30), (103, 48), (103, 49), (103, 51), (103, 38), (103, 39), (103, 34), (103, 40), (103, 8), (103, 1)] M Z := (fc.mono (by decide) (by decide)).tr (fE.mono (by decide) (by decide))
  have z105 : rM Z = S'.1 := (fr_A (SA := [105]) (SB := []) fZ0 (by decide) 105 (by decide)).trans g4.1.2.2.1
  have wZ : sp_WS Z := WS_fr0 fE (by decide +kernel) (by decide +kernel) wc
  have fDZ : sp_fr [113, 114, 115, 116, 117, 130, 108, 110, 111, 122, 123, 121, 109, 105, 124, 125] [(103, 0), (103, 50), (103, 13), (103, 14), (103, 15), (103, 16), (103, 17), (103, 18), (103, 19), (103, 20), (103, 21), (103, 23), (103, 26), (103, 29), (103, 30), (103, 48), (103, 49), (103, 51), (103, 38), (103, 39), (103, 34), (103, 40), (103, 8), (103, 1), (0, 12)] D2 Z := (fc0.mono (by decide) (by decide)).tr (fE.mono (by decide) (by decide))
  have p17 : ∀ j, j < 6 → sp_P Z 17 j = sp_P M 17 j := fun j hj' => by
    rw [fDZ.2.2.1 17 j (by decide) (by simp), fD2.2.2.1 17 j (by decide) (by simp), show sp_P D1 17 j = sp_P Mf 34 j from c4 j hj', a2.2.2.1 34 j (by decide) (by simp), hP34 j hj']
  obtain ⟨s1, s2, s3, s4, s5, s6, s7, s8, s9, s10, s11⟩ := hS'
  refine ⟨Z, ?_, ?_⟩
  · have c : fX10_orders F M = some (nI S'.2.2.2.1, Mc) := by
      refine hc.trans (Eq.trans a1 ?_)
      unfold fX7_copyFrom
      rw [show fX5_copyFrom F Mf (5 + 1) (22 + 1) = some D1 from c1, Option.bind_some, show fX3_copyFrom D1 (5 + 13) (22 + 13) = some D2 from d1, Option.bind_some, Option.bind_some, show sp_I D2 22 5 = nI S'.2.2.2.1 by rw [fD2.1 22 5 (by decide) (by decide), c5.1 22 5 (by decide) (by decide)]; exact hf5]
      rfl
    have r : fX11_orders F Mc = some (nI S'.2.2.2.1, Z) := by
      rw [o10]
      refine Eq.trans g1 ?_
      rw [g4.2.2.1, tell_g _ (show (0 : Int32) ≤ nI S'.2.2.2.1 from nI_le (a := 0) (by omega) (by omega)), Option.bind_some]
    unfold gL_13
    rw [c, Option.bind_some]
    dsimp only
    rw [r, Option.bind_some]
    dsimp only
    rw [if_pos rfl]
  · obtain ⟨hR, hB, hL⟩ := hI.2.1
    have r3 := r3_le hB
    refine Inv_step fM hI (by decide +kernel) (Or.inr wZ) (Or.inr ⟨?_, by rw [z105]; exact BT_to s1, ?_⟩) (Or.inr ?_) (Or.inr (i_T_0 ?_ ?_)) (Or.inr ?_) (Or.inl (by decide +kernel)) (Or.inl (by decide +kernel)) (by decide +kernel)
    · rw [z105]
      exact Room_fr fDZ (by decide) (by decide) hC2.2.2.2.1
    · rw [z105]
      exact i_Law_fr fM (by decide +kernel) (fun j hj' => p17 j (by omega)) (s7 3 (by omega)) (fun i h1 h2 => s7 i (by omega)) r3 hL
    · rw [z105]
      exact U_to (PC_fr d2 fDZ (by decide) (by simp) (by simp)) (PR_fr g4.2.1 fZ0 (by decide) (by simp) (by simp)) s3
    · rw [fE.1 94 1 (by decide) (by decide), ffc.1 94 1 (by decide) (by decide), a2.1 94 1 (by decide) (by decide)]; exact h94
    · rw [fZ0.1 103 13 (by decide) (by decide), g2.1 103 13 (by decide) (by decide)]; exact o5
    · have hM := hI.2.2.2.2.1
      refine i_M_grant' hM (fr_A (SA := [102]) (SB := []) fM (by decide) 102 (by decide)) (fr_A (SA := [104]) (SB := []) fM (by decide) 104 (by decide)) ?_ (I_eq _ _ _ _) (fM.1 0 13 (by decide) (by decide)) (fM.1 103 11 (by decide) (by decide)) ?_ ?_ ?_
      · rw [fE.1 0 12 (by decide) (by decide)]; exact I_eq _ _ _ _
      · rw [fE.1 0 14 (by decide) (by decide), ffc.1 0 14 (by decide) (by decide), a2.1 0 14 (by decide) (by decide), h14, fZ0.1 103 18 (by decide) (by decide), g2.1 103 18 (by decide) (by decide), o3]
      · rw [fE.1 0 15 (by decide) (by decide), ffc.1 0 15 (by decide) (by decide), a2.1 0 15 (by decide) (by decide), h15, fZ0.1 103 50 (by decide) (by decide), g2.1 103 50 (by decide) (by decide), o4]
      · rw [fZ0.1 103 20 (by decide) (by decide)]; exact g4.1.2.1
theorem op_13 (hF : 2000 ≤ F) (hI : Inv k M) : ∃ p, gL_13 F M = some p ∧ Inv (k + 1) p := by
  obtain ⟨q, n, hTC, hTR⟩ := txt_of hI
  cases hg : gX q n true with
  | inl g => exact ord_bad hF hI hTC hTR hg
  | inr cl =>
    obtain ⟨M7, lf, ns, np, u, w, len, e, h1, h2, h3, h4, h5, h6, h7, h8, h9, h10, h11, h12, h13, h14, h15⟩ := ord_c0 hF hI hTC hg
    have hs : ∀ c ∈ cl, sumsOk c := gT_p (fun f lv g lv' c h => ordR_p h) 12 _ 0 [] cl (fun c hc => by cases hc) hg
    cases hj : ruO lf ns np cl 0 (rM M, u, e, 0, -1) with
    | inl j => exact ord_fail hF hI hTR hg hs h2 h3 h4 h5 h6 h7 h8 h10 h11 h13 h14 h15 hj
    | inr S' => exact ord_ok hF hI hTR hg hs h2 h3 h4 h5 h6 h7 h8 h9 h10 h11 h12 h13 h14 h15 hj
end Ord5
