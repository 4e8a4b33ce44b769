/-! ===== orders: the call ===== -/
section Ord4
variable {F k : Nat} {M : sp_Mem}
abbrev yofr (M M' : sp_Mem) : Prop := sp_fr [98, 99, 100, 101] [(94, 1), (94, 2), (94, 3), (94, 4), (96, 4), (96, 5), (96, 6), (96, 7), (96, 8), (97, 2), (97, 3), (0, 14), (0, 15)] M M'
theorem ord_bad {q : Nat → Nat} {n g : Nat} (hF : 2000 ≤ F) (hI : Inv k M) (hTC : TXC M q n) (hTR : TXR M q n) (hg : gX q n true = .inl g) : ∃ p, gL_13 F M = some p ∧ Inv (k + 1) p := by
  have hW := hI.1
  have f0 : sp_fr [] [(0, 15)] M (sp_setI M 0 15 (-1)) := sp_fr_I (Or.inr (by decide)) rfl
  obtain ⟨Mr, r1, r2, hgn⟩ := (read_c (F := F) (ord := true) (M := sp_setI M 0 15 (-1)) (by omega) (TXC_fr f0 hTC (by decide)) (show sp_N M 99 = 400 from hW.2.2.1 99 (by decide)) (show sp_N M 98 = 60 from hW.2.2.1 98 (by decide))).1 g hg
  have hg2 : g < 2 ^ 31 := by have := hTC.1; omega
  let Y := sp_setI (sp_setI Mr 0 14 (nI g)) 94 1 0
  have fY : yofr M Y := (((f0.mono (by decide) (by decide)).tr (r2.mono (by decide) (by decide))).tr (sp_fr_I (Or.inr (by decide)) rfl)).tr (sp_fr_I (Or.inr (by decide)) rfl)
  have y15 : sp_I Y 0 15 = -1 := by rw [I_ne _ _ _ (by decide), I_nf _ _ _ (by decide), r2.1 0 15 (by decide) (by decide)]; exact I_eq _ _ _ _
  let M1 := sp_setI (sp_setI (rfM Y 6) 103 0 0) 103 50 (-1)
  have f1 : sp_fr [98, 99, 100, 101, 102] [(94, 1), (94, 2), (94, 3), (94, 4), (96, 4), (96, 5), (96, 6), (96, 7), (96, 8), (97, 2), (97, 3), (0, 14), (0, 15), (0, 12), (103, 0), (103, 50)] M M1 := ((((fY.mono (by decide) (by decide)).tr (sp_fr_I (Or.inr (by decide)) rfl)).tr (sp_fr_I (Or.inl (by decide)) rfl)).tr (sp_fr_I (Or.inr (by decide)) rfl)).tr (sp_fr_I (Or.inr (by decide)) rfl)
  obtain ⟨M2, b1, b2, b3, b4⟩ := begT (F := F) (ord := true) (by omega) (TXR_fr f1 hTR (by decide)) (i_C_fr f1 (by decide) hI.2.2.2.2.2.2.2.1)
  obtain ⟨M3, l1, l2, l3⟩ := (loop_ord (F := F) (kx := fun M9 => fX11_orders_j46 F M9) hF 12 F M2 (tkF q n 0) 0 0 [] rfl (by omega) b3 (fun i c hi => by cases hi)).1 g hg
  obtain ⟨M4, t1, t2, t3, t4, t5, t6⟩ := endT_f (F := F) l3
  have f4 : sp_fr [113, 114, 115, 116, 117, 130] [(103, 13), (103, 14), (103, 15), (103, 16), (103, 17), (103, 18), (103, 19), (103, 20), (103, 21), (103, 23), (103, 26), (103, 29), (103, 30)] M1 M4 := ((b2.mono (by decide) (by decide)).tr (l2.mono (by decide) (by decide))).tr (t2.mono (by decide) (by decide))
  have f14 : sp_fr [98, 99, 100, 101, 102, 113, 114, 115, 116, 117, 130] [(94, 1), (94, 2), (94, 3), (94, 4), (96, 4), (96, 5), (96, 6), (96, 7), (96, 8), (97, 2), (97, 3), (0, 14), (0, 15), (0, 12), (103, 0), (103, 50), (103, 13), (103, 14), (103, 15), (103, 16), (103, 17), (103, 18), (103, 19), (103, 20), (103, 21), (103, 23), (103, 26), (103, 29), (103, 30)] M M4 := (f1.mono (by decide) (by decide)).tr (f4.mono (by decide) (by decide))
  have f5 : sp_fr [98, 99, 100, 101, 102, 113, 114, 115, 116, 117, 130, 104] [(94, 1), (94, 2), (94, 3), (94, 4), (96, 4), (96, 5), (96, 6), (96, 7), (96, 8), (97, 2), (97, 3), (0, 14), (0, 15), (0, 12), (103, 0), (103, 50), (103, 13), (103, 14), (103, 15), (103, 16), (103, 17), (103, 18), (103, 19), (103, 20), (103, 21), (103, 23), (103, 26), (103, 29), (103, 30), (103, 1)] M (tlM M4 6) := ((f14.mono (by decide) (by decide)).tr (sp_fr_I (Or.inr (by decide)) rfl)).tr (sp_fr_I (Or.inl (by decide)) rfl)
  refine ⟨tlM M4 6, ?_, ?_⟩
  · have c : fX10_orders F M = some (-6, rfM Y 6) := by
      unfold fX10_orders
      simp only [sp_do]
      rw [show fX2_read F (sp_setI M 0 15 (-1)) 1 = some (nI g, Mr) from r1, Option.bind_some]
      dsimp only
      rw [if_neg (show ¬ sp_I (sp_setI (sp_setI Mr 0 14 (nI g)) 94 1 0) 0 14 = -1 by rw [I_ne _ _ _ (by decide), I_eq]; exact nI_m1 hg2), rf_6, Option.bind_some]
    have r : fX11_orders F (rfM Y 6) = some (-6, tlM M4 6) := by
      unfold fX11_orders
      simp only [sp_do]
      rw [show fX11_beginText F (sp_setI (sp_setI (rfM Y 6) 103 0 0) 103 50 (-1)) 1 = some M2 from b1, Option.bind_some, l1]
      unfold fX11_orders_j46
      rw [t1, Option.bind_some, if_neg (show ¬ sp_I M4 103 19 = 0 by rw [t3]; decide), tl_6, Option.bind_some]
    unfold gL_13
    rw [c, Option.bind_some]
    dsimp only
    rw [r, Option.bind_some]
    dsimp only
    rw [if_pos rfl]
  · refine Inv_step f5 hI (by decide +kernel) (Or.inl (by decide +kernel)) (Or.inl (by decide +kernel)) (Or.inl (by decide +kernel)) (Or.inr (i_T_0 ?_ ?_)) (Or.inr ?_) (Or.inl (by decide +kernel)) (Or.inl (by decide +kernel)) (by decide +kernel)
    · unfold tlM
      rw [I_ne _ _ _ (by decide), I_ne _ _ _ (by decide), f4.1 94 1 (by decide) (by decide), I_ne _ _ _ (by decide), I_ne _ _ _ (by decide), rf_I _ _ (by decide) (by decide)]
      exact I_eq _ _ _ _
    · unfold tlM
      rw [I_ne _ _ _ (by decide), I_nf _ _ _ (by decide)]
      exact t6
    · have hM := hI.2.2.2.2.1
      have rf0 : ∀ j, j ≠ 12 → sp_I (rfM Y 6) 0 j = sp_I Y 0 j := fun j hj => by unfold rfM; rw [I_ne _ _ _ (by decide), I_nf _ _ _ hj]
      refine i_M_rf (Y := Y) hM (fr_A (SA := [102]) (SB := []) fY (by decide) 102 (by decide)) (fr_A (SA := [104]) (SB := []) f14 (by decide) 104 (by decide)) ?_ ?_ (f14.1 0 13 (by decide) (by decide)) (f14.1 103 11 (by decide) (by decide)) ?_ ?_ t5
      · rw [fr_A (SA := [102]) (SB := []) f4 (by decide) 102 (by decide), I_ne _ _ _ (by decide), I_ne _ _ _ (by decide)]
      · rw [f4.1 0 12 (by decide) (by decide), I_ne _ _ _ (by decide), I_ne _ _ _ (by decide)]
        unfold rfM
        rw [I_ne _ _ _ (by decide), I_eq]
      · rw [t4, f4.1 0 14 (by decide) (by decide), I_ne _ _ _ (by decide), I_ne _ _ _ (by decide), rf0 14 (by decide), I_ne _ _ _ (by decide)]
        exact I_eq _ _ _ _
      · rw [f4.1 0 15 (by decide) (by decide), f4.1 103 50 (by decide) (by decide), I_ne _ _ _ (by decide), I_ne _ _ _ (by decide), rf0 15 (by decide), y15]
        exact (I_eq _ _ _ _).symm
/-- the class, up to the run -/
theorem ord_c0 {q : Nat → Nat} {n : Nat} {cl : List GC} (hF : 2000 ≤ F) (hI : Inv k M) (hTC : TXC M q n) (hg : gX q n true = .inr cl) : ∃ (M7 : sp_Mem) (lf : Option (List ev_C)) (ns np u w len : Nat) (e : Pe), CX F M 6 (rM M) lf ns 999 ∧ RX F M (rM M) lf ns 999 ∧ PC M 18 w u e ∧ PR M u e ∧ SOK (rM M) ns np (rM M, u, e, 0, -1) 0 ∧ OCC F M7 len cl (rM M, u, e, 0, -1) lf ns ∧ sp_I M7 97 2 = nI cl.length ∧ sp_WS M7 ∧ (∀ j, j < 6 → sp_P M7 34 j = sp_P M 17 j) ∧ sp_fr [98, 99, 100, 101, 24, 25, 26, 27, 28, 29, 30, 31, 32, 33, 34, 36, 37] [(94, 1), (94, 2), (94, 3), (94, 4), (96, 4), (96, 5), (96, 6), (96, 7), (96, 8), (97, 2), (97, 3), (0, 14), (0, 15), (23, 4), (23, 8), (23, 11), (23, 14), (23, 15), (35, 2), (35, 3), (22, 5), (22, 4)] M M7 ∧ sp_I M7 0 14 = -1 ∧ sp_I M7 0 15 = -1 ∧ sp_I M7 94 1 = 0 ∧ (∀ c ∈ cl, tT c) ∧ fX10_orders F M = fX10_orders_l60 F (fun M13 => (fX7_copyFrom F M13 5 22).bind fun M14 => (fX10_grant M14 (sp_I M14 22 5)).bind fun x15 => some (x15.1, x15.2)) F 0 M7 := by
  have hW := hI.1
  have f0 : sp_fr [] [(0, 15)] M (sp_setI M 0 15 (-1)) := sp_fr_I (Or.inr (by decide)) rfl
  obtain ⟨Mr, len, f, lv, r1, r2, hCR, hG, hT⟩ := (read_c (F := F) (ord := true) (M := sp_setI M 0 15 (-1)) (by omega) (TXC_fr f0 hTC (by decide)) (show sp_N M 99 = 400 from hW.2.2.1 99 (by decide)) (show sp_N M 98 = 60 from hW.2.2.1 98 (by decide))).2 cl hg
  have hnc : cl.length ≤ 12 := hCR.2.2.2.2.2.2.2.2.2.1
  have hlen : len ≤ 400 := by
    have a := hCR.2.2.2.2.2.2.2.2.2.2
    have b := hCR.2.1.1
    have c := hCR.1.1
    omega
  let Y := sp_setI (sp_setI Mr 0 14 (-1)) 94 1 0
  have fY : yofr M Y := (((f0.mono (by decide) (by decide)).tr (r2.mono (by decide) (by decide))).tr (sp_fr_I (Or.inr (by decide)) rfl)).tr (sp_fr_I (Or.inr (by decide)) rfl)
  have y15 : sp_I Y 0 15 = -1 := by rw [I_ne _ _ _ (by decide), I_nf _ _ _ (by decide), r2.1 0 15 (by decide) (by decide)]; exact I_eq _ _ _ _
  have y14 : sp_I Y 0 14 = -1 := by rw [I_ne _ _ _ (by decide)]; exact I_eq _ _ _ _
  have y94 : sp_I Y 94 1 = 0 := I_eq _ _ _ _
  have y97 : ∀ j, sp_I Y 97 j = sp_I Mr 97 j := fun j => by rw [I_ne _ _ _ (by decide), I_ne _ _ _ (by decide)]
  have y98 : sp_I Y 98 = sp_I Mr 98 := by rw [I_ne _ _ _ (by decide), I_ne _ _ _ (by decide)]
  have y99 : sp_I Y 99 = sp_I Mr 99 := by rw [I_ne _ _ _ (by decide), I_ne _ _ _ (by decide)]
  obtain ⟨lf, ns, hC, hX⟩ := Inv_X (F := F) (by omega) hI
  have hB := hC.2.2.2.2.1.2
  obtain ⟨np, hp5, hnp⟩ := bt_p hB
  obtain ⟨u, w, e, pc, pr, pb⟩ := U_of hI.2.2.1
  have hCY : CX F Y 6 (rM M) lf ns 999 := CX_fr3 fY hC (by decide) (by decide)
  have wY : sp_WS Y := WS_fr0 fY (by decide +kernel) (by decide +kernel) hW
  obtain ⟨M5, c1, c2, c3, c4, c5⟩ := copy_CX (o0 := 23) hCY (Or.inl (by decide)) (by decide) (by decide) (Or.inr (Or.inl rfl)) (Or.inl rfl)
  have pcY : PC Y 18 w u e := PC_fr pc fY (by decide) (by simp) (by simp)
  have pc5 : PC M5 18 w u e := PC_fr pcY c5 (by decide) (by simp) (by simp)
  obtain ⟨M6, d1, d2⟩ := pcp_c (a := 18) (b := 35) (Or.inl (by decide)) pc5
  have f6 := frX3_copyFrom d1
  have hC6 : CX F M6 23 (rM M) lf ns 999 := CX_fr3 f6 c2 (by decide) (by decide)
  let M7 := sp_setI (sp_setI M6 22 5 0) 22 4 (-1)
  have f7 : sp_fr [] [(22, 5), (22, 4)] M6 M7 := (sp_fr_I (Or.inr (by decide)) rfl).tr (sp_fr_I (Or.inr (by decide)) rfl)
  have w5 := c3 wY
  have w6 : sp_WS M6 := WS_fr0 f6 (by decide +kernel) (by decide +kernel) w5
  have w7 : sp_WS M7 := WS_fr0 f7 (by decide +kernel) (by decide +kernel) w6
  have fY7 : sp_fr [24, 25, 26, 27, 28, 29, 30, 31, 32, 33, 34, 36, 37] [(23, 4), (23, 8), (23, 11), (23, 14), (23, 15), (35, 2), (35, 3), (22, 5), (22, 4)] Y M7 := ((c5.mono (by decide) (by decide)).tr (f6.mono (by decide) (by decide))).tr (f7.mono (by decide) (by decide))
  refine ⟨M7, lf, ns, np, u, w, len, e, hC, hX, pc, pr, ⟨hB, pc.2.1, pb, Nat.le_refl _, (show -1 ≤ (-1 : Int32).toInt by decide), (show (-1 : Int32).toInt ≤ 2000 by decide), fun j _ => rfl, hC.2.2.2.2.2.2.1, hC.2.2.2.2.2.2.2, hnp, hp5⟩, ⟨CX_fr3 f7 hC6 (by decide) (by decide), ⟨w, PC_fr d2 f7 (by decide) (by simp) (by simp)⟩, ?_, I_eq _ _ _ _, ?_⟩, ?_, w7, fun j hj => ?_, (fY.mono (by decide) (by decide)).tr (fY7.mono (by decide) (by decide)), (fY7.1 0 14 (by decide) (by decide)).trans y14, (fY7.1 0 15 (by decide) (by decide)).trans y15, (fY7.1 94 1 (by decide) (by decide)).trans y94, hT, ?_⟩
  · rw [I_nf _ _ _ (by decide)]; exact I_eq _ _ _ _
  · refine TXO_fr fY7 (by decide) ⟨wY.2.2.1 38 (by decide), wY.2.2.1 98 (by decide), wY.2.2.1 99 (by decide), (y97 3).trans hCR.2.2.2.2.1, hlen, ?_, hnc⟩
    rw [y98, y99]
    exact hG
  · rw [fY7.1 97 2 (by decide) (by decide), y97]; exact hCR.2.2.2.2.2.1
  · rw [f7.2.2.1 34 j (by decide) (by simp), f6.2.2.1 34 j (by decide) (by simp), show sp_P M5 34 j = sp_P Y 17 j from c4 j hj]
    exact fY.2.2.1 17 j (by decide) (by simp)
  · unfold fX10_orders
    simp only [sp_do]
    rw [show fX2_read F (sp_setI M 0 15 (-1)) 1 = some (-1, Mr) from r1, Option.bind_some]
    dsimp only
    rw [if_pos (show sp_I (sp_setI (sp_setI Mr 0 14 (-1)) 94 1 0) 0 14 = -1 from y14)]
    unfold fX7_copyFrom fX7_startOrders
    simp only [sp_do]
    rw [show fX5_copyFrom F (sp_setI (sp_setI Mr 0 14 (-1)) 94 1 0) (22 + 1) (5 + 1) = some M5 from c1, Option.bind_some, show fX3_copyFrom M5 (22 + 13) (5 + 13) = some M6 from d1, Option.bind_some, Option.bind_some, Option.bind_some]
/-- the reference, up to the run -/
theorem ord_r0 {q : Nat → Nat} {n u ns : Nat} {cl : List GC} {Mc : sp_Mem} {r : Nat → Int32} {e : Pe} {lf : Option (List ev_C)} (hF : 2000 ≤ F) (hTR : TXR Mc q n) (hC : i_C Mc) (hg : gX q n true = .inr cl) (hX : RX F Mc r lf ns 999) (hP : PR Mc u e) (hu : u ≤ 16) : ∃ (M8 : sp_Mem) (len : Nat), ORR F M8 len cl (r, u, e, 0, -1) lf ns ∧ sp_I M8 103 21 = nI cl.length ∧ sp_I M8 103 18 = -1 ∧ sp_I M8 103 50 = -1 ∧ sp_I M8 103 13 = 0 ∧ sp_fr [113, 114, 115, 116, 117, 130, 108, 110, 111] [(103, 0), (103, 50), (103, 13), (103, 14), (103, 15), (103, 16), (103, 17), (103, 18), (103, 19), (103, 20), (103, 21), (103, 23), (103, 26), (103, 29), (103, 30), (103, 48), (103, 49)] Mc M8 ∧ (∀ j, j < 736 → sp_I M8 110 j = sp_I Mc 108 j) ∧ (∀ j, j < 16 → sp_I M8 111 j = sp_I Mc 109 j) ∧ (∀ j, j < 46 → sp_I M8 108 (782 + j) = r (5 + j)) ∧ fX11_orders F Mc = fX11_orders_l140 F (fun M39 => (fX11_tell M39 (sp_I M39 103 48)).bind fun x40 => some (x40.1, x40.2)) F (nI u) 0 M8 := by
  let M1 := sp_setI (sp_setI Mc 103 0 0) 103 50 (-1)
  have f1 : sp_fr [] [(103, 0), (103, 50)] Mc M1 := (sp_fr_I (Or.inr (by decide)) rfl).tr (sp_fr_I (Or.inr (by decide)) rfl)
  obtain ⟨M2, b1, b2, b3, b4⟩ := begT (F := F) (ord := true) (by omega) (TXR_fr f1 hTR (by decide)) (i_C_fr f1 (by decide) hC)
  obtain ⟨M3, len', f', lv', l1, l2, l3, l4, l5⟩ := (loop_ord (F := F) (kx := fun M9 => fX11_orders_j46 F M9) hF 12 F M2 (tkF q n 0) 0 0 [] rfl (by omega) b3 (fun i c hi => by cases hi)).2 cl hg
  have hlen' : len' ≤ 400 := by
    have a := l3.2.2.2.2.2.2.2.2.2.2
    have b := l3.2.1.1
    have c := l3.1.1
    omega
  let M4 := sp_setI (sp_setI M3 103 20 0) 103 13 0
  have f34 : sp_fr [] [(103, 13), (103, 20)] M3 M4 := (sp_fr_I (Or.inr (by decide)) rfl).tr (sp_fr_I (Or.inr (by decide)) rfl)
  have f4 : sp_fr [113, 114, 115, 116, 117, 130] [(103, 0), (103, 50), (103, 13), (103, 14), (103, 15), (103, 16), (103, 17), (103, 18), (103, 19), (103, 20), (103, 21), (103, 23), (103, 26), (103, 29), (103, 30)] Mc M4 := (((f1.mono (by decide) (by decide)).tr (b2.mono (by decide) (by decide))).tr (l2.mono (by decide) (by decide))).tr (f34.mono (by decide) (by decide))
  have fm : sp_fr [113, 114, 115, 116, 117, 130] [(103, 13), (103, 14), (103, 15), (103, 16), (103, 17), (103, 18), (103, 19), (103, 20), (103, 21), (103, 23), (103, 26), (103, 29), (103, 30)] M1 M4 := ((b2.mono (by decide) (by decide)).tr (l2.mono (by decide) (by decide))).tr (f34.mono (by decide) (by decide))
  have q105 : sp_I M4 105 = sp_I Mc 105 := fr_A (SA := [105]) (SB := []) f4 (by decide) 105 (by decide)
  have q108 : sp_I M4 108 = sp_I Mc 108 := fr_A (SA := [108]) (SB := []) f4 (by decide) 108 (by decide)
  have q109 : sp_I M4 109 = sp_I Mc 109 := fr_A (SA := [109]) (SB := []) f4 (by decide) 109 (by decide)
  have q8 : sp_I M4 103 8 = nI u := (f4.1 103 8 (by decide) (by decide)).trans hP.1
  let K1 := sp_cpy M4 105 108 5 782 46
  let K2 := sp_cpy K1 108 110 0 0 736
  let K3 := sp_cpy K2 109 111 0 0 16
  let M8 := sp_setI (sp_setI K3 103 48 0) 103 49 (-1)
  have k1 : sp_fr [108] [] M4 K1 := by
    have : fX11_keepAll F M4 (nI 17) = some K1 := keep_e (q := 17) (by omega) (by omega)
    exact frX11_keepAll this
  have cpf : ∀ (X : sp_Mem) (a b s d m : Nat), sp_fr [b] [] X (sp_cpy X a b s d m) := by
    intro X a b s d m
    refine ⟨fun i j h1 _ => ?_, fun i j _ _ => rfl, fun i j _ _ => rfl, fun i => rfl, fun i => rfl, rfl⟩
    rw [I_cpy_ne (fun w => h1 (by rw [w]; exact List.mem_singleton.mpr rfl))]
  have k8 : sp_fr [108, 110, 111] [(103, 48), (103, 49)] M4 M8 := ((((k1.mono (by decide) (by decide)).tr ((cpf K1 108 110 0 0 736).mono (by decide) (by decide))).tr ((cpf K2 109 111 0 0 16).mono (by decide) (by decide))).tr (sp_fr_I (Or.inr (by decide)) rfl)).tr (sp_fr_I (Or.inr (by decide)) rfl)
  have m108 : sp_I M8 108 = sp_I K1 108 := by rw [I_ne _ _ _ (by decide), I_ne _ _ _ (by decide), I_cpy_ne (by decide), I_cpy_ne (by decide)]
  have m110 : ∀ j, j < 736 → sp_I M8 110 j = sp_I Mc 108 j := fun j hj => by
    rw [I_ne _ _ _ (by decide), I_ne _ _ _ (by decide), I_cpy_ne (by decide), I_cpy_at hj, I_cpy, if_neg (by omega), q108]
  have m111 : ∀ j, j < 16 → sp_I M8 111 j = sp_I Mc 109 j := fun j hj => by
    rw [I_ne _ _ _ (by decide), I_ne _ _ _ (by decide), I_cpy_at hj, I_cpy_ne (by decide), I_cpy_ne (by decide), q109]
  refine ⟨M8, len', ⟨?_, ⟨(k8.1 103 8 (by decide) (by decide)).trans q8, fun kk hkk => ⟨?_, fun i hi => ?_⟩⟩, ?_, I_eq _ _ _ _, ?_, hlen', l3.2.2.2.2.2.2.2.2.2.1⟩, ?_, ?_, ?_, ?_, (f4.mono (by decide) (by decide)).tr (k8.mono (by decide) (by decide)), m110, m111, fun j hj => ?_, ?_⟩
  · refine RX_of hX ?_ ((fr_A (SA := [105]) (SB := []) k8 (by decide) 105 (by decide)).trans q105)
    rw [k8.1 103 20 (by decide) (by decide), hX.2.1, I_nf _ _ _ (by decide)]
    exact I_eq _ _ _ _
  · rw [fr_A (SA := [109]) (SB := []) k8 (by decide) 109 (by decide), q109]; exact (hP.2 kk hkk).1
  · have hkk : kk < u := hkk
    rw [m108, I_cpy, if_neg (by omega), q108]; exact (hP.2 kk hkk).2 i hi
  · rw [I_nf _ _ _ (by decide)]; exact I_eq _ _ _ _
  · exact pOW_fr (by decide) k8 (pOW_fr (by decide) f34 l4)
  · rw [k8.1 103 21 (by decide) (by decide), f34.1 103 21 (by decide) (by decide)]; exact l3.2.2.2.1
  · rw [k8.1 103 18 (by decide) (by decide), f34.1 103 18 (by decide) (by decide)]; exact l3.2.2.2.2.2.2.2.1.2
  · rw [k8.1 103 50 (by decide) (by decide), fm.1 103 50 (by decide) (by decide)]; exact I_eq _ _ _ _
  · rw [k8.1 103 13 (by decide) (by decide)]; exact I_eq _ _ _ _
  · rw [m108, I_cpy, if_pos (by omega), q105, show 5 + (782 + j - 782) = 5 + j by omega]; exact RX_r hX _
  · unfold fX11_orders
    simp only [sp_do]
    rw [show fX11_beginText F (sp_setI (sp_setI Mc 103 0 0) 103 50 (-1)) 1 = some M2 from b1, Option.bind_some, l1]
    unfold fX11_orders_j46
    rw [endT_g l3 l5, Option.bind_some, if_pos (show sp_I M4 103 19 = 0 by rw [f34.1 103 19 (by decide) (by decide)]; exact l3.2.2.2.2.2.2.1), show fX11_keepAll F (sp_setI (sp_setI M3 103 20 0) 103 13 0) 17 = some K1 from keep_e (q := 17) (by omega) (by omega), Option.bind_some]
    simp only [sp_do]
    rw [show sp_I K1 103 8 = nI u by rw [k1.1 103 8 (by decide) (by decide)]; exact q8]
    have e1 := od_l77 (F := F) (M := K1) (a1 := nI u) (kx := fun b19 M18 => fX11_orders_l104 F (fun b25 M24 => sp_do (sp_setI M24 103 48 0) fun M26 => sp_do (sp_setI M26 103 49 (-1)) fun M27 => fX11_orders_l140 F (fun M39 => (fX11_tell M39 (sp_I M39 103 48)).bind fun x40 => some (x40.1, x40.2)) F b25 0 M27) F b19 0 M18) 736 0 F (by omega) (by omega)
    rw [cpy_0] at e1
    refine Eq.trans e1 ?_
    have e2 := od_l104 (F := F) (M := K2) (a1 := nI u) (kx := fun b25 M24 => sp_do (sp_setI M24 103 48 0) fun M26 => sp_do (sp_setI M26 103 49 (-1)) fun M27 => fX11_orders_l140 F (fun M39 => (fX11_tell M39 (sp_I M39 103 48)).bind fun x40 => some (x40.1, x40.2)) F b25 0 M27) 16 0 F (by omega) (by omega)
    rw [cpy_0] at e2
    exact e2
end Ord4
