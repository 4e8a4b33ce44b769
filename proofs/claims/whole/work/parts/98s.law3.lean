/-! ===== law: the call that is granted ===== -/
theorem i_M_grant' {M M' : sp_Mem} (hM : i_M M) (h1 : sp_I M' 102 = sp_I M 102) (h2 : sp_I M' 104 = sp_I M 104) (h3 : sp_I M' 0 12 = 0) (h4 : sp_I M' 103 1 = 0) (h13 : sp_I M' 0 13 = sp_I M 0 13) (h11 : sp_I M' 103 11 = sp_I M 103 11) (h14 : sp_I M' 0 14 = sp_I M' 103 18) (h15 : sp_I M' 0 15 = sp_I M' 103 50) (h20 : sp_I M' 103 20 = 0) : i_M M' := by
  obtain ⟨a1, a2, a3, a4, a5, a6⟩ := hM
  exact ⟨fun i hi => by rw [h1, h2]; exact a1 i hi, by rw [h3, h4], by rw [h13, h11]; exact a3, h14, h15, h20⟩
section Law3
variable {F k : Nat} {M : sp_Mem}
theorem law_ok {q : Nat → Nat} {n : Nat} {cl : List GC} (hF : 2000 ≤ F) (hk : k < 512) (hI : Inv k M) (h6 : rM M 3 ≠ 6) (hTC : TXC M q n) (hTR : TXR M q n) (hg : gX q n false = .inr cl) : ∃ p, gL_12 F M = some p ∧ p.2.1 ≤ 3 ∧ p.2.2 ≤ 464 ∧ Inv (k + 1) p.1 := by
  obtain ⟨hR, hB, hL⟩ := hI.2.1
  obtain ⟨nl, hnl, e3, hw4⟩ := hB.1.2.2.2.1
  have hW := hI.1
  have hsn := hI.2.2.2.2.2.2.2.2
  have h132 := hW.1
  have e14 : sp_I M 6 14 = nI nl := (rm_l hR).trans e3
  have nl6 : nl < 6 := by
    by_cases z : nl = 6
    · exact (h6 (by rw [e3, z]; rfl)).elim
    · omega
  obtain ⟨Mr, len, f, lv, r1, r2, hCR, hG, hT⟩ := (read_c (F := F) (ord := false) (by omega) hTC (show sp_N M 99 = 400 from hW.2.2.1 99 (by decide)) (show sp_N M 98 = 60 from hW.2.2.1 98 (by decide))).2 cl hg
  have hnc : cl.length ≤ 12 := hCR.2.2.2.2.2.2.2.2.2.1
  have hlen : len ≤ 400 := by
    have a := hCR.2.2.2.2.2.2.2.2.2.2
    have b := hCR.2.1.1
    have c := hCR.1.1
    omega
  let Y := sp_setI (sp_setI Mr 0 14 (-1)) 94 1 0
  have fY : sp_fr [98, 99, 100, 101] [(94, 1), (94, 2), (94, 3), (94, 4), (96, 4), (96, 5), (96, 6), (96, 7), (96, 8), (97, 2), (97, 3), (0, 14)] M Y := ((r2.mono (by decide) (by decide)).tr (sp_fr_I (Or.inr (by decide)) rfl)).tr (sp_fr_I (Or.inr (by decide)) rfl)
  have nY : sp_n Y = sp_n M := fY.2.2.2.2.2
  have y972 : sp_I Y 97 2 = nI cl.length := by rw [I_ne _ _ _ (by decide), I_ne _ _ _ (by decide)]; exact hCR.2.2.2.2.2.1
  have y973 : sp_I Y 97 3 = nI len := by rw [I_ne _ _ _ (by decide), I_ne _ _ _ (by decide)]; exact hCR.2.2.2.2.1
  have y98 : sp_I Y 98 = sp_I Mr 98 := by rw [I_ne _ _ _ (by decide), I_ne _ _ _ (by decide)]
  have y99 : sp_I Y 99 = sp_I Mr 99 := by rw [I_ne _ _ _ (by decide), I_ne _ _ _ (by decide)]
  let Z := sp_tri (sp_new Y 13 0) (sp_n Y) 97 (5 * cl.length) len
  have nZ : sp_n Z = sp_n M + 3 := by rw [tri_n, nY]
  have oldZ : ∀ i, i < sp_n M → sp_I Z i = sp_I Y i ∧ sp_L Z i = sp_L Y i ∧ sp_P Z i = sp_P Y i ∧ sp_N Z i = sp_N Y i ∧ sp_T Z i = sp_T Y i := fun i hi => tri_old (by rw [nY]; exact hi)
  obtain ⟨z1', z2', z3', z4', z5', z6'⟩ := tri_new (Y := Y) (t := 97) (n1 := 5 * cl.length) (n2 := len) (by rw [nY]; omega)
  have z1 : sp_I Z (sp_n M) 2 = sp_I Y 97 2 := by rw [← nY]; exact z1'
  have z2 : sp_I Z (sp_n M) 3 = sp_I Y 97 3 := by rw [← nY]; exact z2'
  have z3 : ∀ j, j < 5 * cl.length → sp_I Z (sp_n M + 1) j = sp_I Y 98 j := by rw [← nY]; exact z3'
  have z4 : ∀ j, j < len → sp_I Z (sp_n M + 2) j = sp_I Y 99 j := by rw [← nY]; exact z4'
  have z5 : sp_N Z (sp_n M + 1) = 5 * cl.length := by rw [← nY]; exact z5'
  have z6 : sp_N Z (sp_n M + 2) = len := by rw [← nY]; exact z6'
  have ztext : sp_text Z (sp_n M) := by
    rw [← nY]
    exact sp_tri_text (M := Y) (t := 97) (n1 := 5 * cl.length) (n2 := len)
  -- the memory before the call, with the new cells
  let Mx : sp_Mem := (fun i j => if i < sp_n M then sp_I M i j else sp_I Z i j, fun i j => if i < sp_n M then sp_L M i j else sp_L Z i j, fun i j => if i < sp_n M then sp_P M i j else sp_P Z i j, fun i => sp_N Z i, fun i => sp_T Z i, sp_n Z)
  have xI : ∀ i, i < sp_n M → sp_I Mx i = sp_I M i := fun i hi => funext fun j => (show (if i < sp_n M then sp_I M i j else sp_I Z i j) = _ from if_pos hi)
  have xL : ∀ i, i < sp_n M → sp_L Mx i = sp_L M i := fun i hi => funext fun j => (show (if i < sp_n M then sp_L M i j else sp_L Z i j) = _ from if_pos hi)
  have xP : ∀ i, i < sp_n M → sp_P Mx i = sp_P M i := fun i hi => funext fun j => (show (if i < sp_n M then sp_P M i j else sp_P Z i j) = _ from if_pos hi)
  have xI2 : ∀ i, ¬ i < sp_n M → sp_I Mx i = sp_I Z i := fun i hi => funext fun j => (show (if i < sp_n M then sp_I M i j else sp_I Z i j) = _ from if_neg hi)
  have xL2 : ∀ i, ¬ i < sp_n M → sp_L Mx i = sp_L Z i := fun i hi => funext fun j => (show (if i < sp_n M then sp_L M i j else sp_L Z i j) = _ from if_neg hi)
  have xP2 : ∀ i, ¬ i < sp_n M → sp_P Mx i = sp_P Z i := fun i hi => funext fun j => (show (if i < sp_n M then sp_P M i j else sp_P Z i j) = _ from if_neg hi)
  have xN : ∀ i, sp_N Mx i = sp_N Z i := fun i => rfl
  have xT : ∀ i, sp_T Mx i = sp_T Z i := fun i => rfl
  have xn : sp_n Mx = sp_n M + 3 := nZ
  have hX : Inv (k + 1) Mx := Inv_grow hI xI xL xP (fun i hi => by rw [xN, (oldZ i hi).2.2.2.1]; exact fY.2.2.2.2.1 i) (fun i hi => by rw [xT, (oldZ i hi).2.2.2.2]; exact fY.2.2.2.1 i) (by rw [xn]; omega) (by rw [xn]; omega)
  have fZ : sp_fr [98, 99, 100, 101] [(94, 1), (94, 2), (94, 3), (94, 4), (96, 4), (96, 5), (96, 6), (96, 7), (96, 8), (97, 2), (97, 3), (0, 14)] Mx Z := by
    refine ⟨fun i j h1 h2 => ?_, fun i j h1 h2 => ?_, fun i j h1 h2 => ?_, fun i => rfl, fun i => rfl, rfl⟩
    · by_cases hi : i < sp_n M
      · rw [xI i hi, (oldZ i hi).1]; exact fY.1 i j h1 h2
      · rw [xI2 i hi]
    · by_cases hi : i < sp_n M
      · rw [xL i hi, (oldZ i hi).2.1]; exact fY.2.1 i j h1 h2
      · rw [xL2 i hi]
    · by_cases hi : i < sp_n M
      · rw [xP i hi, (oldZ i hi).2.2.1]; exact fY.2.2.1 i j h1 h2
      · rw [xP2 i hi]
  let Z2 := sp_setI (sp_setP Z 17 nl (some (sp_n M))) 6 14 (nI (nl + 1))
  let Mg := sp_setI Z2 0 12 0
  let M1 := sp_setI Mg 103 0 0
  have f1 : sp_fr [98, 99, 100, 101, 17] [(94, 1), (94, 2), (94, 3), (94, 4), (96, 4), (96, 5), (96, 6), (96, 7), (96, 8), (97, 2), (97, 3), (0, 14), (6, 14), (0, 12), (103, 0)] Mx M1 := ((((fZ.mono (by decide) (by decide)).tr (sp_fr_P (Or.inl (by decide)) rfl)).tr (sp_fr_I (Or.inr (by decide)) rfl)).tr (sp_fr_I (Or.inr (by decide)) rfl)).tr (sp_fr_I (Or.inr (by decide)) rfl)
  have xTR : TXR Mx q n := ⟨hTR.1, by rw [xI 103 (by omega)]; exact hTR.2.1, fun i hi => by rw [xI 112 (by omega)]; exact hTR.2.2 i hi⟩
  obtain ⟨M2, b1, b2, b3, b4⟩ := begT (F := F) (ord := false) (by omega) (TXR_fr f1 xTR (by decide)) (i_C_fr f1 (by decide) hX.2.2.2.2.2.2.2.1)
  obtain ⟨M3, len', f', lv', l1, l2, l3, l4, l5⟩ := (loop_law (F := F) (kx := fun M9 => fX11_law_j64 F M9) hF 12 F M2 (tkF q n 0) 0 0 [] rfl (by omega) b3 (fun i c hi => by cases hi)).2 cl hg
  have hlen' : len' ≤ 400 := by
    have a := l3.2.2.2.2.2.2.2.2.2.2
    have b := l3.2.1.1
    have c := l3.1.1
    omega
  let M4 := sp_setI (sp_setI M3 103 20 0) 103 13 0
  have f4 : sp_fr [113, 114, 115, 116, 117, 130] [(103, 13), (103, 14), (103, 15), (103, 16), (103, 17), (103, 18), (103, 19), (103, 20), (103, 21), (103, 23), (103, 26), (103, 29), (103, 30)] M1 M4 := (((b2.mono (by decide) (by decide)).tr (l2.mono (by decide) (by decide))).tr (sp_fr_I (Or.inr (by decide)) rfl)).tr (sp_fr_I (Or.inr (by decide)) rfl)
  have e34 : ∀ i j, i ≠ 103 → sp_I M4 i j = sp_I M3 i j := fun i j hi => by rw [I_ne _ _ _ hi, I_ne _ _ _ hi]
  have e34b : ∀ j, j ≠ 13 → j ≠ 20 → sp_I M4 103 j = sp_I M3 103 j := fun j h1 h2 => by rw [I_nf _ _ _ h1, I_nf _ _ _ h2]
  have m105 : sp_I M4 105 = sp_I Mx 105 := (fr_A (SA := [105]) (SB := []) f4 (by decide) 105 (by decide)).trans (fr_A (SA := [105]) (SB := []) f1 (by decide) 105 (by decide))
  have x3 : sp_I Mx 105 3 = nI nl := by rw [xI 105 (by omega)]; exact e3
  let u := 80 + 900 * nl
  have hu : u + 898 ≤ 5480 := by show 80 + 900 * nl + 898 ≤ 5480; omega
  let M5 := sp_setI M4 105 (u + 1) (nI cl.length)
  have q21 : sp_I M5 103 21 = nI cl.length := by rw [I_ne _ _ _ (by decide), e34b 21 (by decide) (by decide)]; exact l3.2.2.2.1
  have q23 : sp_I M5 103 23 = nI len' := by rw [I_ne _ _ _ (by decide), e34b 23 (by decide) (by decide)]; exact l3.2.2.1
  obtain ⟨M6, c1, c2, c3, c4⟩ := cp_110 (F := F) (u := u) (nc := cl.length) (kx := fun b20 M19 => fX11_law_l145 F (fun M28 => sp_do (sp_setI M28 105 3 ((sp_I M28 105 3) + 1)) fun M29 => (fX11_tell M29 ((sp_I M29 105 3) - 1)).bind fun x30 => some (x30.1, x30.2)) F b20 0 M19) hu hnc (8 * cl.length) 0 F M5 (by omega) (by omega) q21
  obtain ⟨M7, d1, d2, d3, d4⟩ := cp_145 (F := F) (u := u) (len := len') (kx := fun M28 => sp_do (sp_setI M28 105 3 ((sp_I M28 105 3) + 1)) fun M29 => (fX11_tell M29 ((sp_I M29 105 3) - 1)).bind fun x30 => some (x30.1, x30.2)) hu hlen' len' 0 F M6 (by omega) (by omega) (by rw [c2.1 103 23 (by decide) (by decide)]; exact q23)
  let M8 := sp_setI M7 105 3 (nI (nl + 1))
  let M9 := sp_setI M8 103 1 0
  have a3 : sp_I M7 105 3 = nI nl := by
    rw [d3 3 (by omega), c3 3 (by omega), I_nf _ _ _ (by omega), m105]; exact x3
  have f9 : sp_fr [105] [(103, 1)] M4 M9 := (((((sp_fr_I (Or.inl (by decide)) rfl : sp_fr [105] [(103, 1)] M4 M5)).tr (c2.mono (by decide) (by decide))).tr (d2.mono (by decide) (by decide))).tr (sp_fr_I (Or.inl (by decide)) rfl)).tr (sp_fr_I (Or.inr (by decide)) rfl)
  have fX : sp_fr [98, 99, 100, 101, 17, 113, 114, 115, 116, 117, 130, 105] [(94, 1), (94, 2), (94, 3), (94, 4), (96, 4), (96, 5), (96, 6), (96, 7), (96, 8), (97, 2), (97, 3), (0, 14), (6, 14), (0, 12), (103, 0), (103, 13), (103, 14), (103, 15), (103, 16), (103, 17), (103, 18), (103, 19), (103, 20), (103, 21), (103, 23), (103, 26), (103, 29), (103, 30), (103, 1)] Mx M9 := ((f1.mono (by decide) (by decide)).tr (f4.mono (by decide) (by decide))).tr (f9.mono (by decide) (by decide))
  -- the reference's row
  have s3 : sp_I M9 105 3 = nI (nl + 1) := by rw [I_ne _ _ _ (by decide)]; exact I_eq _ _ _ _
  have s8 : ∀ i, i ≠ 3 → sp_I M9 105 i = sp_I M7 105 i := fun i hi => by rw [I_ne _ _ _ (by decide), I_nf _ _ _ hi]
  have sOld : ∀ i, i ≠ 3 → (i < u + 1 ∨ u + 898 ≤ i) → sp_I M9 105 i = sp_I Mx 105 i := fun i hi h => by rw [s8 i hi, d3 i (by omega), c3 i (by omega), I_nf _ _ _ (by omega), m105]
  have s1 : sp_I M9 105 (u + 1) = nI cl.length := by rw [s8 _ (by show 80 + 900 * nl + 1 ≠ 3; omega), d3 _ (by omega), c3 _ (by omega)]; exact I_eq _ _ _ _
  have s2 : ∀ i, i < 8 * cl.length → sp_I M9 105 (u + 2 + i) = sp_I M3 113 i := fun i hi => by
    rw [s8 _ (by show 80 + 900 * nl + 2 + i ≠ 3; omega), d3 _ (by omega), c4 i (by omega) hi, I_ne _ _ _ (by decide), e34 _ _ (by decide)]
  have s4 : ∀ i, i < len' → sp_I M9 105 (u + 98 + 2 * i) = sp_I M3 114 i ∧ sp_I M9 105 (u + 98 + 2 * i + 1) = sp_I M3 115 i := fun i hi => by
    have := d4 i (by omega) hi
    rw [s8 _ (by show 80 + 900 * nl + 98 + 2 * i ≠ 3; omega), s8 _ (by show 80 + 900 * nl + 98 + 2 * i + 1 ≠ 3; omega), this.1, this.2, c2.1 114 i (by decide) (by simp), c2.1 115 i (by decide) (by simp)]
    exact ⟨(congrFun (I_ne _ _ _ (by decide)) i).trans (e34 114 i (by decide)), (congrFun (I_ne _ _ _ (by decide)) i).trans (e34 115 i (by decide))⟩
  -- new cells in the end
  have okf : okA [98, 99, 100, 101, 17, 113, 114, 115, 116, 117, 130, 105] [(94, 1), (94, 2), (94, 3), (94, 4), (96, 4), (96, 5), (96, 6), (96, 7), (96, 8), (97, 2), (97, 3), (0, 14), (6, 14), (0, 12), (103, 0), (103, 13), (103, 14), (103, 15), (103, 16), (103, 17), (103, 18), (103, 19), (103, 20), (103, 21), (103, 23), (103, 26), (103, 29), (103, 30), (103, 1)] = true := by decide +kernel
  have hi9 : ∀ i j, 132 ≤ i → sp_I M9 i j = sp_I Mx i j := fun i j hi => fX.1 i j (okA_132 (j := j) okf hi).1 (okA_132 okf hi).2
  have p17 : ∀ j, sp_P M9 17 j = if j = nl then some (sp_n M) else sp_P Mx 17 j := by
    intro j
    have e1 : sp_P M9 17 j = sp_P M1 17 j := ((f4.2.2.1 17 j (by decide) (by simp)).symm ▸ (f9.2.2.1 17 j (by decide) (by simp)))
    rw [e1]
    show sp_P (sp_setP Z 17 nl (some (sp_n M))) 17 j = _
    rw [sp_P_setP]
    by_cases z : j = nl
    · rw [if_pos ⟨rfl, z⟩, if_pos z]
    · rw [if_neg (fun w => z w.2), if_neg z]
      exact fZ.2.2.1 17 j (by decide) (by simp)
  have hX' := hX
  obtain ⟨wX, rX, uX, tX, mX, iX, nX, cX, _⟩ := hX
  obtain ⟨roomX, bX, lawX⟩ := rX
  have hfin : Inv (k + 1 + 1) M9 := by
    refine Inv_step fX hX' okf (Or.inr ?_) (Or.inr ?_) (Or.inr ?_) (Or.inr (i_T_0 ?_ ?_)) (Or.inr ?_) (Or.inl (by decide +kernel)) (Or.inl (by decide +kernel)) (by decide +kernel)
    · refine WS_fr fX okf (by decide +kernel) ?_ ?_ ?_ wX
      · rw [fX.2.2.1 77 2 (by decide) (by decide)]; exact wX.2.2.2.2.1
      · rw [fX.2.2.1 77 3 (by decide) (by decide)]; exact wX.2.2.2.2.2.1
      · intro o ho kk t hkt
        by_cases h17 : o = 6
        · subst h17
          rw [show 6 + 11 = 17 from rfl, p17] at hkt
          by_cases z : kk = nl
          · rw [if_pos z] at hkt
            cases hkt
            obtain ⟨⟨t1, t2⟩, t3, t4, ⟨t5, t6⟩, ⟨t7, t8⟩⟩ := ztext
            exact ⟨⟨t1, t2⟩, by rw [xP2 _ (by omega)]; exact t3, by rw [xP2 _ (by omega)]; exact t4, ⟨t5, t6⟩, ⟨t7, t8⟩⟩
          · rw [if_neg z] at hkt
            exact wX.2.2.2.2.2.2 6 (Or.inl rfl) kk t hkt
        · have : sp_P M9 (o + 11) kk = sp_P Mx (o + 11) kk := by
            have ho' : o = 23 ∨ o = 39 ∨ o = 52 ∨ o = 64 ∨ o = 78 := ho.resolve_left h17
            rcases ho' with rfl | rfl | rfl | rfl | rfl
            · exact fX.2.2.1 _ kk (by decide) (by simp)
            · exact fX.2.2.1 _ kk (by decide) (by simp)
            · exact fX.2.2.1 _ kk (by decide) (by simp)
            · exact fX.2.2.1 _ kk (by decide) (by simp)
            · exact fX.2.2.1 _ kk (by decide) (by simp)
          rw [this] at hkt
          exact wX.2.2.2.2.2.2 o ho kk t hkt
    · have lowr : ∀ i, i < 80 → i ≠ 3 → rM M9 i = rM Mx i := fun i h1 h2 => sOld i h2 (Or.inl (by show i < 80 + 900 * nl + 1; omega))
      refine ⟨?_, ?_, ?_⟩
      · intro i hi
        by_cases z : i = 3
        · subst z
          show sp_I M9 6 14 = sp_I M9 105 3
          rw [s3, f9.1 6 14 (by decide) (by decide), f4.1 6 14 (by decide) (by decide), I_ne _ _ _ (by decide), I_ne _ _ _ (by decide)]
          exact I_eq _ _ _ _
        · rw [lowr i (by omega) z, ← roomX i hi]
          unfold rowOf
          have b : ∀ j, j ≠ 14 → sp_I M9 6 j = sp_I Mx 6 j := fun j hj => fX.1 6 j (by decide) (by simp [hj])
          have c : ∀ d, 1 ≤ d → d ≤ 10 → sp_I M9 (6 + d) = sp_I Mx (6 + d) := fun d h1 h2 => funext fun j => fX.1 (6 + d) j (by simp; omega) (by simp; omega)
          rw [b 4 (by decide), b 8 (by decide), b 11 (by decide), b 15 (by decide), c 10 (by decide) (by decide), c 2 (by decide) (by decide), c 3 (by decide) (by decide), c 5 (by decide) (by decide), c 1 (by decide) (by decide), c 4 (by decide) (by decide), c 6 (by decide) (by decide), c 7 (by decide) (by decide), c 8 (by decide) (by decide), c 9 (by decide) (by decide), if_neg z, if_neg z]
      · obtain ⟨⟨⟨n0, h0, g0⟩, ⟨n1, h1, g1⟩, ⟨n2, h2, g2⟩, ⟨n3, h3, g3, g4⟩, g5⟩, g6⟩ := bX
        have n3e : n3 = nl := (nIe (by omega) (by omega)).1 (g3.symm.trans x3)
        refine ⟨⟨⟨n0, h0, by rw [lowr 0 (by omega) (by omega)]; exact g0⟩, ⟨n1, h1, by rw [lowr 1 (by omega) (by omega)]; exact g1⟩, ⟨n2, h2, by rw [lowr 2 (by omega) (by omega)]; exact g2⟩, ⟨nl + 1, by omega, s3, ?_⟩, ?_⟩, fun i h5 h79 => by rw [lowr i (by omega) (by omega)]; exact g6 i h5 h79⟩
        · rw [lowr 4 (by omega) (by omega)]
          obtain ⟨w1, w2⟩ := g4
          exact ⟨w1, by rw [n3e] at w2; omega⟩
        · intro kk hkk
          rw [lowr 2 (by omega) (by omega)] at hkk
          have hk6 : kk < 6 := by
            rw [g2, nI_toInt (by omega)] at hkk
            omega
          rw [lowr (67 + 2 * kk) (by omega) (by omega), lowr 1 (by omega) (by omega)]
          exact g5 kk hkk
      · intro kk hkk
        rw [show rM M9 3 = nI (nl + 1) from s3, nI_toInt (by omega)] at hkk
        by_cases z : kk = nl
        · refine ⟨sp_n M, by rw [show 6 + 11 = 17 from rfl, p17, if_pos z], h132, by rw [fX.2.2.2.2.2, xn]; omega, ?_⟩
          rw [z]
          have c2' : sp_I M9 (sp_n M) 2 = nI cl.length := by rw [hi9 _ _ h132, xI2 _ (by omega), z1]; exact y972
          have c3' : sp_I M9 (sp_n M) 3 = nI len := by rw [hi9 _ _ h132, xI2 _ (by omega), z2]; exact y973
          have N1 : sp_N M9 (sp_n M + 1) = 5 * cl.length := by rw [fX.2.2.2.2.1]; exact z5
          have N2 : sp_N M9 (sp_n M + 2) = len := by rw [fX.2.2.2.2.1]; exact z6
          rw [c2', c3', N1, N2]
          refine LR_of (H := sp_I Mr 98) (stp := sp_I Mr 99) (H3 := sp_I M3 113) (g4 := sp_I M3 114) (g5 := sp_I M3 115) (len' := len') hnc hlen hlen' hG l4 hT (gT_p (fun f lv g lv' c h => lawR_p h) 12 _ 0 [] cl (fun c hc => by cases hc) hg) (fun j hj => ?_) (fun j hj => ?_) ?_ (fun i hi => ?_) (fun i hi => ?_)
          · rw [hi9 _ _ (by omega), xI2 _ (by omega), z3 j hj]
            exact congrFun y98 j
          · rw [hi9 _ _ (by omega), xI2 _ (by omega), z4 j hj]
            exact congrFun y99 j
          · exact s1
          · show sp_I M9 105 (80 + 900 * nl + (2 + i)) = _
            rw [← Nat.add_assoc]
            exact s2 i hi
          · have := s4 i hi
            refine ⟨?_, ?_⟩
            · show sp_I M9 105 (80 + 900 * nl + (98 + 2 * i)) = _
              rw [← Nat.add_assoc]
              exact this.1
            · show sp_I M9 105 (80 + 900 * nl + (98 + 2 * i + 1)) = _
              rw [← Nat.add_assoc, ← Nat.add_assoc]
              exact this.2
        · have hlt : kk < nl := by omega
          obtain ⟨t, t1, t2, t3, t4⟩ := lawX kk (by rw [show rM Mx 3 = nI nl from x3, nI_toInt (by omega)]; omega)
          refine ⟨t, by rw [show 6 + 11 = 17 from rfl, p17, if_neg z]; exact t1, t2, by rw [fX.2.2.2.2.2]; exact t3, ?_⟩
          have i0 : sp_I M9 t = sp_I Mx t := funext fun j => hi9 _ j t2
          have i1 : sp_I M9 (t + 1) = sp_I Mx (t + 1) := funext fun j => hi9 _ j (by omega)
          have i2 : sp_I M9 (t + 2) = sp_I Mx (t + 2) := funext fun j => hi9 _ j (by omega)
          rw [i0, i1, i2, fX.2.2.2.2.1, fX.2.2.2.2.1]
          refine LR_ext (fun i hi => ?_) t4
          exact sOld _ (by omega) (Or.inl (by show 80 + 900 * kk + i < 80 + 900 * nl + 1; omega))
    · exact i_U_fr (r := rM Mx) fX (by decide +kernel) (fun kk h1 h2 => sOld _ (by omega) (Or.inl (by show 5 + kk < 80 + 900 * nl + 1; omega))) uX
    · rw [f9.1 94 1 (by decide) (by decide), f4.1 94 1 (by decide) (by decide), I_ne _ _ _ (by decide), I_ne _ _ _ (by decide), I_ne _ _ _ (by decide)]
      show sp_I Z 94 1 = 0
      rw [(oldZ 94 (by omega)).1]
      exact I_eq _ _ _ _
    · rw [f9.1 103 13 (by decide) (by decide)]
      exact I_eq _ _ _ _
    · refine i_M_grant' mX ?_ ?_ ?_ ?_ ?_ ?_ ?_ ?_ ?_
      · rw [fr_A (SA := [102]) (SB := []) fX (by decide) 102 (by decide)]
      · rw [fr_A (SA := [104]) (SB := []) fX (by decide) 104 (by decide)]
      · rw [f9.1 0 12 (by decide) (by decide), f4.1 0 12 (by decide) (by decide), I_ne _ _ _ (by decide)]
        exact I_eq _ _ _ _
      · exact I_eq _ _ _ _
      · exact fX.1 0 13 (by decide) (by decide)
      · exact fX.1 103 11 (by decide) (by decide)
      · rw [f9.1 0 14 (by decide) (by decide), f4.1 0 14 (by decide) (by decide), I_ne _ _ _ (by decide), I_nf _ _ _ (by decide), I_ne _ _ _ (by decide), f9.1 103 18 (by decide) (by decide), e34b 18 (by decide) (by decide), l3.2.2.2.2.2.2.2.1.2]
        show sp_I Z 0 14 = -1
        rw [(oldZ 0 (by omega)).1, I_ne _ _ _ (by decide)]
        exact I_eq _ _ _ _
      · rw [fX.1 0 15 (by decide) (by decide), fX.1 103 50 (by decide) (by decide)]; exact mX.2.2.2.2.1
      · rw [f9.1 103 20 (by decide) (by decide), I_nf _ _ _ (by decide)]
        exact I_eq _ _ _ _
  refine ⟨(M9, 3, 5 * cl.length + len + 4), ?_, Nat.le_refl _, by show 5 * cl.length + len + 4 ≤ 464; omega, Inv_lower hfin (by rw [fX.2.2.2.2.2, xn]; omega)⟩
  have y5 : sp_I Y 97 2 * 5 = nI (5 * cl.length) := by rw [y972, show nI cl.length * 5 = nI (cl.length * 5) from nI_mul _ 5, Nat.mul_comm]
  have cA : (nI (5 * cl.length)).toNatClampNeg = 5 * cl.length := nI_clamp (by omega)
  have cB : (nI len).toNatClampNeg = len := nI_clamp (by omega)
  have c : fX10_law F M = some ((nI nl, Mg), 3, 5 * cl.length + len + 4) := by
    unfold fX10_law
    rw [if_pos (show sp_I M 6 14 < 6 by rw [e14, show (6 : Int32) = nI 6 from rfl, nIlt (by omega) (by omega)]; exact nl6), show fX2_read F M 0 = some (-1, Mr) from r1, Option.bind_some]
    simp only [sp_do]
    rw [if_pos (show sp_I (sp_setI (sp_setI Mr 0 14 (-1)) 94 1 0) 0 14 = -1 by rw [I_ne _ _ _ (by decide)]; exact I_eq _ _ _ _)]
    show fX10_lawOk Y = _
    unfold fX10_lawOk
    rw [y5, y973, cA, cB, if_neg (by
      rintro (w | w | w | w | w)
      · rw [Int32.lt_iff_toInt_lt, nI_toInt (by omega)] at w
        have w : ((5 * cl.length : Nat) : Int) < 0 := w
        omega
      · omega
      · rw [Int32.lt_iff_toInt_lt, nI_toInt (by omega)] at w
        have w : ((len : Nat) : Int) < 0 := w
        omega
      · omega
      · rw [nY] at w; omega)]
    have g14 : sp_I Z 6 14 = nI nl := by rw [(oldZ 6 (by omega)).1, fY.1 6 14 (by decide) (by decide)]; exact e14
    have ga : fX5_addLaw Z 6 (sp_n Y) = some (nI nl, Z2) := by
      unfold fX5_addLaw
      rw [g14, if_pos (show nI nl < 6 by rw [show (6 : Int32) = nI 6 from rfl, nIlt (by omega) (by omega)]; exact nl6), sp_ix_nI nl6 (by omega), Option.bind_some]
      simp only [sp_do]
      rw [show sp_I (sp_setP Z (6 + 11) nl (some (sp_n Y))) 6 14 = nI nl from g14, nI_1, nY]
    rw [show fX5_addLaw (sp_tri (sp_new Y 13 0) (sp_n Y) 97 (5 * cl.length) len) 6 (sp_n Y) = some (nI nl, Z2) from ga, Option.bind_some]
    dsimp only
    unfold fX10_grant
    simp only [sp_do]
    rw [Option.bind_some]
  have r : fX11_law F Mg = some (nI nl, M9) := by
    unfold fX11_law
    simp only [sp_do]
    rw [if_neg (show ¬ sp_I (sp_setI Mg 103 0 0) 105 3 = 6 by
      rw [show sp_I (sp_setI Mg 103 0 0) 105 = sp_I Mx 105 from fr_A (SA := [105]) (SB := []) f1 (by decide) 105 (by decide), x3]
      exact fun w => by have := (nIe (b := 6) (by omega) (by omega)).1 w; omega), show fX11_beginText F (sp_setI Mg 103 0 0) 0 = some M2 from b1, Option.bind_some, l1]
    unfold fX11_law_j64
    rw [endT_g l3 l5, Option.bind_some, if_pos (show sp_I M4 103 19 = 0 by rw [e34b 19 (by decide) (by decide)]; exact l3.2.2.2.2.2.2.1)]
    simp only [sp_do] at c1 d1 ⊢
    have v3 : sp_I (sp_setI (sp_setI M3 103 20 0) 103 13 0) 105 3 = nI nl := (congrFun m105 3).trans x3
    have v21 : sp_I (sp_setI (sp_setI M3 103 20 0) 103 13 0) 103 21 = nI cl.length := (e34b 21 (by decide) (by decide)).trans l3.2.2.2.1
    rw [v3, v21, show (80 : Int32) + 900 * nI nl = nI u by rw [show (900 : Int32) * nI nl = nI (900 * nl) from nI_mul 900 _, show (80 : Int32) + nI (900 * nl) = nI (80 + 900 * nl) from nI_add 80 _], show nI u + 1 = nI (u + 1) from nI_add u 1, sp_ix_nI (show u + 1 < 5480 by omega) (by omega), Option.bind_some]
    refine Eq.trans c1 ?_
    refine Eq.trans d1 ?_
    rw [a3, nI_1, show sp_I (sp_setI M7 105 3 (nI (nl + 1))) 105 3 = nI (nl + 1) from I_eq _ _ _ _, show nI (nl + 1) - 1 = nI nl from nI_sub (a := nl + 1) (b := 1) (by omega) (by omega), tell_g _ (show (0 : Int32) ≤ nI nl from nI_le (a := 0) (by omega) (by omega)), Option.bind_some]
  unfold gL_12
  rw [c, Option.bind_some]
  dsimp only
  rw [r, Option.bind_some]
  dsimp only
  rw [if_pos rfl]
end Law3
theorem op_12 {F k : Nat} {M : sp_Mem} (hF : 2000 ≤ F) (hk : k < 512) (hI : Inv k M) : ∃ p, gL_12 F M = some p ∧ p.2.1 ≤ 3 ∧ p.2.2 ≤ 464 ∧ Inv (k + 1) p.1 := by
  by_cases h6 : rM M 3 = 6
  · exact law_full hI h6
  · obtain ⟨q, n, hTC, hTR⟩ := txt_of hI
    cases hg : gX q n false with
    | inl g => exact law_bad hF hI h6 hTC hTR hg
    | inr cl => exact law_ok hF hk hI h6 hTC hTR hg
