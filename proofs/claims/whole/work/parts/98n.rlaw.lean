/-! ===== texts: the reference reads a law's clause ===== -/
def RLW (H gop garg : Nat → Int32) (lim : Nat) (cl : List GC) : Prop := ∀ i c, cl[i]? = some c → H (8 * i) = nI c.1 ∧ ev_RO 0 10 gop garg lim (H (8 * i + 3)) (H (8 * i + 4)) c.2.1 ∧ ev_RO 0 10 gop garg lim (H (8 * i + 5)) (H (8 * i + 6)) c.2.2.2.2
theorem RO_up {ord : Int32} {nw : Nat} {g1 g2 h1 h2 : Nat → Int32} {len len' : Nat} {a b : Int32} {o : Option ev_S} (hl : len ≤ len') (hc : ∀ i, i < len → ev_rcf ord g2 h2 len' i = ev_rcf ord g1 h1 len i) (h : ev_RO ord nw g1 h1 len a b o) : ev_RO ord nw g2 h2 len' a b o := by
  cases o with
  | none => exact h
  | some f =>
    obtain ⟨p, q, n, e1, e2, e3, e4, e5⟩ := h
    exact ⟨p, q, n, e1, e2, by omega, e4, ev_Seg_cg e5 (fun i _ hi => hc i (by omega))⟩
theorem RLW_up {H H' g1 g2 h1 h2 : Nat → Int32} {len len' : Nat} {cl : List GC} (hl : len ≤ len') (hc : ∀ i, i < len → ev_rcf 0 g2 h2 len' i = ev_rcf 0 g1 h1 len i) (hH : ∀ i, i < 8 * cl.length → H' i = H i) (h : RLW H g1 h1 len cl) : RLW H' g2 h2 len' cl := by
  intro i c hi
  have hlt : i < cl.length := (List.getElem?_eq_some_iff.mp hi).1
  obtain ⟨a1, a2, a3⟩ := h i c hi
  rw [hH _ (by omega), hH _ (by omega), hH _ (by omega), hH _ (by omega), hH _ (by omega)]
  exact ⟨a1, RO_up hl hc a2, RO_up hl hc a3⟩
theorem RLW_snoc {H gop garg : Nat → Int32} {lim : Nat} {cl : List GC} {c : GC} (h : RLW H gop garg lim cl) (h0 : H (8 * cl.length) = nI c.1) (h1 : ev_RO 0 10 gop garg lim (H (8 * cl.length + 3)) (H (8 * cl.length + 4)) c.2.1) (h2 : ev_RO 0 10 gop garg lim (H (8 * cl.length + 5)) (H (8 * cl.length + 6)) c.2.2.2.2) : RLW H gop garg lim (cl ++ [c]) := by
  intro i x hi
  by_cases z : i < cl.length
  · rw [List.getElem?_append_left z] at hi
    exact h i x hi
  · rw [List.getElem?_append_right (by omega)] at hi
    have hi0 : i - cl.length = 0 := by
      by_cases y : i - cl.length = 0
      · exact y
      · rw [List.getElem?_eq_none (by rw [List.length_singleton]; omega)] at hi
        cases hi
    have e : i = cl.length := by omega
    rw [hi0] at hi
    have : c = x := Option.some.inj hi
    subst this
    subst e
    exact ⟨h0, h1, h2⟩
theorem zl_113 {F a : Nat} {a1 : Int32} {kx : Int32 → Int32 → sp_Mem → Option sp_Mem} (ha : a + 8 ≤ 96) : ∀ (e d kf : Nat) (M : sp_Mem), d + e = 8 → e < kf → ∃ M', fX11_readLaw_l75 F kx kf a1 (nI a) (nI d) M = kx a1 (nI a) M' ∧ sp_fr [113] [] M M' ∧ (∀ i, i < a + d → sp_I M' 113 i = sp_I M 113 i) ∧ (∀ i, a + d ≤ i → i < a + 8 → sp_I M' 113 i = 0)
  | 0, d, kf, M, hd, hk => by
    obtain ⟨kf, rfl⟩ : ∃ m, kf = m + 1 := ⟨kf - 1, by omega⟩
    refine ⟨M, ?_, sp_fr.refl _ _ _, fun i _ => rfl, fun i h1 h2 => by omega⟩
    rw [fX11_readLaw_l75, if_pos (show (8 : Int32) ≤ nI d by rw [show d = 8 by omega]; decide)]
  | e + 1, d, kf, M, hd, hk => by
    obtain ⟨kf, rfl⟩ : ∃ m, kf = m + 1 := ⟨kf - 1, by omega⟩
    obtain ⟨M', r1, r2, r3, r4⟩ := zl_113 (F := F) (a1 := a1) (kx := kx) ha e (d + 1) kf (sp_setI M 113 (a + d) 0) (by omega) (by omega)
    refine ⟨M', ?_, (sp_fr_I (Or.inl (by decide)) rfl).tr r2, fun i hi => ?_, fun i h1 h2 => ?_⟩
    · rw [← r1, fX11_readLaw_l75, if_neg (show ¬ (8 : Int32) ≤ nI d from nI_ge (b := 8) (by omega) (by omega)), nI_add, sp_ix_nI (show a + d < 96 by omega) (by omega), Option.bind_some]
      simp only [sp_do]
      rw [nI_1]
    · rw [r3 i (by omega), I_nf _ _ _ (by omega)]
    · by_cases z : i = a + d
      · rw [r3 i (by omega), z]; exact I_eq _ _ _ _
      · exact r4 i (by omega) h2
section RLaw
variable {F n f len lv nc : Nat} {q : Nat → Nat} {M : sp_Mem} {c : GC}
theorem ix8 {d : Nat} (hnc : nc < 12) (hd : d < 8) : sp_ix 96 (nI (8 * nc) + nI d) = some (8 * nc + d) := by
  rw [nI_add]
  exact sp_ix_nI (by omega) (by omega)
theorem j185_r (hnc : nc < 12) : fX11_readLaw_j185 F (nI (8 * nc)) M = some (sp_setI M 113 (8 * nc + 6) (sp_I M 103 23)) := by
  unfold fX11_readLaw_j185
  rw [show sp_ix 96 (nI (8 * nc) + 6) = some (8 * nc + 6) from ix8 (d := 6) hnc (by omega), Option.bind_some]
  rfl
theorem j135_pre (hnc : nc < 12) {M2 : sp_Mem} (h2 : M2 = sp_setI (sp_setI M 113 (8 * nc + 4) (sp_I M 103 23)) 113 (8 * nc + 5) (sp_I M 103 23)) : fX11_readLaw_j135 F (nI (8 * nc)) M = (if (sp_I M 103 19) = 0 then (if (fX11_isWord M2 294) = 0 then (fX11_readLaw_j185 F (nI (8 * nc)) M2) else ((fX11_next F M2).bind fun M31 => (fX11_readExpression F M31 1).bind fun M32 => fX11_readLaw_j185 F (nI (8 * nc)) M32)) else (fX11_readLaw_j185 F (nI (8 * nc)) M2)) := by
  unfold fX11_readLaw_j135
  rw [show sp_ix 96 (nI (8 * nc) + 4) = some (8 * nc + 4) from ix8 (d := 4) hnc (by omega), Option.bind_some, show sp_ix 96 (nI (8 * nc) + 5) = some (8 * nc + 5) from ix8 (d := 5) hnc (by omega)]
  simp only [sp_do]
  rw [Option.bind_some]
  rw [show sp_I (sp_setI M 113 (8 * nc + 4) (sp_I M 103 23)) 103 23 = sp_I M 103 23 from congrFun (I_ne _ _ _ (by decide)) 23, ← h2, show sp_I M2 103 19 = sp_I M 103 19 by rw [h2, I_ne _ _ _ (by decide), I_ne _ _ _ (by decide)]]
/-- nothing more happens once it has failed -/
theorem j135_bad {g : Nat} (hnc : nc < 12) (h : BD M q n g) : ∃ M', fX11_readLaw_j135 F (nI (8 * nc)) M = some M' ∧ tfr M M' ∧ BD M' q n g := by
  let M2 := sp_setI (sp_setI M 113 (8 * nc + 4) (sp_I M 103 23)) 113 (8 * nc + 5) (sp_I M 103 23)
  let M3 := sp_setI M2 113 (8 * nc + 6) (sp_I M2 103 23)
  have f2 : sp_fr [113] [] M M2 := (sp_fr_I (Or.inl (by decide)) rfl).tr (sp_fr_I (Or.inl (by decide)) rfl)
  have f3 : sp_fr [113] [] M M3 := f2.tr (sp_fr_I (Or.inl (by decide)) rfl)
  have B2 := BD_fr f2 (by decide) h
  refine ⟨M3, ?_, f3.mono (by decide) (by decide), BD_fr f3 (by decide) h⟩
  rw [j135_pre hnc (M2 := M2) rfl]
  obtain ⟨b1, b2, b3⟩ := B2
  have e19 : sp_I M2 103 19 = sp_I M 103 19 := f2.1 103 19 (by decide) (by decide)
  rcases b3 with ⟨a, b⟩ | ⟨a, b, c⟩
  · rw [if_neg (show ¬ sp_I M 103 19 = 0 by rw [← e19, a]; decide), j185_r hnc]
  · rw [if_pos (show sp_I M 103 19 = 0 by rw [← e19, a]), if_pos ((isw_1 b1 b).2 (sg_w c _)), j185_r hnc]
theorem ltl_r (hF : 2000 ≤ F) (hnc : nc < 12) (h : RR M q n f false len lv (nc + 1)) (hc : c.2.2.2.2 = none) :
  (∀ g, tsR q n false f lv c = .inl g → ∃ M', fX11_readLaw_j135 F (nI (8 * nc)) M = some M' ∧ tfr M M' ∧ BD M' q n g) ∧
  (∀ g lv' c', tsR q n false f lv c = .inr (g, lv', c') → ∃ M' len', fX11_readLaw_j135 F (nI (8 * nc)) M = some M' ∧ tfr M M' ∧ RR M' q n g false len' lv' (nc + 1) ∧ (∀ i, i < len → rcM M' 0 len' i = rcM M 0 len i) ∧ len ≤ len' ∧ (∀ i, i < 8 * nc + 4 → sp_I M' 113 i = sp_I M 113 i) ∧ sp_I M' 113 (8 * nc + 4) = nI len ∧ c'.1 = c.1 ∧ c'.2.1 = c.2.1 ∧ ev_RO 0 10 (sp_I M' 114) (sp_I M' 115) len' (sp_I M' 113 (8 * nc + 5)) (sp_I M' 113 (8 * nc + 6)) c'.2.2.2.2) := by
  let M2 := sp_setI (sp_setI M 113 (8 * nc + 4) (sp_I M 103 23)) 113 (8 * nc + 5) (sp_I M 103 23)
  have f2 : sp_fr [113] [] M M2 := (sp_fr_I (Or.inl (by decide)) rfl).tr (sp_fr_I (Or.inl (by decide)) rfl)
  have R2 : RR M2 q n f false len lv (nc + 1) := RR_fr f2 (by decide) h
  have h23 : sp_I M 103 23 = nI len := h.2.2.1
  have g4 : sp_I M2 113 (8 * nc + 4) = nI len := by rw [I_nf _ _ _ (by omega), I_eq, h23]
  have g5 : sp_I M2 113 (8 * nc + 5) = nI len := by rw [I_eq, h23]
  have glo : ∀ i, i < 8 * nc + 4 → sp_I M2 113 i = sp_I M 113 i := fun i hi => by rw [I_nf _ _ _ (by omega), I_nf _ _ _ (by omega)]
  have W := isw_1 (a := 294) R2.1 R2.2.1
  have r2 : rcM M2 0 len = rcM M 0 len := rcM_fr f2 (by decide)
  have hl400 : len ≤ 400 := by
    have := h.2.2.2.2.2.2.2.2.2.2
    have := h.2.1.1
    have := h.1.1
    omega
  rw [j135_pre hnc (M2 := M2) rfl, if_pos h.2.2.2.2.2.2.1]
  unfold tsR
  by_cases hx : wdx q n f cs_1 = some 0
  · obtain ⟨M3, e1, e2, e3⟩ := RR_next (F := F) (by omega) R2
    have V := vr_r (base := 21) hF (Or.inr rfl) e3
    rw [if_pos hx, if_neg (W.1 hx), e1, Option.bind_some]
    have e113 : sp_I M3 113 = sp_I M2 113 := fr_A (SA := [113]) (SB := []) e2 (by decide) 113 (by decide)
    cases hr : xr q n false 21 (nxt q n f) lv with
    | inl g1 =>
      refine ⟨fun g e => ?_, fun g lv' c' e => (by cases e)⟩
      cases e
      obtain ⟨M4, s1, s2, s3⟩ := V.1 g1 hr
      have f5 : sp_fr [113] [] M4 (sp_setI M4 113 (8 * nc + 6) (sp_I M4 103 23)) := sp_fr_I (Or.inl (by decide)) rfl
      refine ⟨_, by rw [show fX11_readExpression F M3 1 = some M4 from s1, Option.bind_some, j185_r hnc], (((f2.mono (by decide) (by decide)).tr (e2.mono (by decide) (by decide))).tr (s2.mono (by decide) (by decide))).tr (f5.mono (by decide) (by decide)), BD_fr f5 (by decide) s3⟩
    | inr y =>
      obtain ⟨g1, lv1, v1⟩ := y
      refine ⟨fun g e => (by cases e), fun g lv' c' e => ?_⟩
      cases e
      obtain ⟨M4, len4, s1, s2, s3, s4, s5, t, s6, s7⟩ := V.2 g1 lv1 v1 hr
      have f5 : sp_fr [113] [] M4 (sp_setI M4 113 (8 * nc + 6) (sp_I M4 103 23)) := sp_fr_I (Or.inl (by decide)) rfl
      have e113b : sp_I M4 113 = sp_I M2 113 := (fr_A (SA := [113]) (SB := []) s2 (by decide) 113 (by decide)).trans e113
      have r5 : ∀ L, rcM (sp_setI M4 113 (8 * nc + 6) (sp_I M4 103 23)) 0 L = rcM M4 0 L := fun L => rcM_fr f5 (by decide)
      have r3 : rcM M3 0 len = rcM M2 0 len := rcM_fr e2 (by decide)
      refine ⟨_, len4, by rw [show fX11_readExpression F M3 1 = some M4 from s1, Option.bind_some, j185_r hnc], (((f2.mono (by decide) (by decide)).tr (e2.mono (by decide) (by decide))).tr (s2.mono (by decide) (by decide))).tr (f5.mono (by decide) (by decide)), RR_fr f5 (by decide) s3, fun i hi => ?_, s5, fun i hi => ?_, ?_, rfl, rfl, ?_⟩
      · rw [r5, ← r2, ← r3]; exact s4 i hi
      · rw [I_nf _ _ _ (by omega), e113b]; exact glo i hi
      · rw [I_nf _ _ _ (by omega), e113b]; exact g4
      · refine ⟨len, len4, t, ?_, ?_, Nat.le_refl _, s6, ?_⟩
        · rw [I_nf _ _ _ (by omega), e113b]; exact g5
        · rw [I_eq]; exact s3.2.2.1
        · exact ev_Seg_cg s7 (fun i _ hi => congrFun (r5 len4) i)
  · rw [if_neg hx, if_pos (W.2 hx), j185_r hnc]
    refine ⟨fun g e => (by cases e), fun g lv' c' e => ?_⟩
    cases e
    have f3 : sp_fr [113] [] M2 (sp_setI M2 113 (8 * nc + 6) (sp_I M2 103 23)) := sp_fr_I (Or.inl (by decide)) rfl
    refine ⟨_, len, rfl, (f2.tr f3).mono (by decide) (by decide), RR_fr f3 (by decide) R2, fun i hi => ?_, Nat.le_refl _, fun i hi => ?_, ?_, rfl, rfl, ?_⟩
    · rw [show rcM (sp_setI M2 113 (8 * nc + 6) (sp_I M2 103 23)) 0 len = rcM M2 0 len from rcM_fr f3 (by decide), r2]
    · rw [I_nf _ _ _ (by omega)]; exact glo i hi
    · rw [I_nf _ _ _ (by omega)]; exact g4
    · rw [hc]
      refine ⟨len, hl400, ?_, ?_⟩
      · rw [I_nf _ _ _ (by omega)]; exact g5
      · rw [I_eq]; exact R2.2.2.1
/-- a reader of the reference that follows the machine's -/
def StR (q : Nat → Nat) (n : Nat) (ord : Bool) (rdF : sp_Mem → Option sp_Mem) (rd : Nat ⊕ (Nat × Nat × GC)) (P : sp_Mem → Nat → List GC → Prop) (M : sp_Mem) (cl : List GC) : Prop := (∀ g, rd = .inl g → ∃ M', rdF M = some M' ∧ tfr M M' ∧ BD M' q n g) ∧ (∀ g lv' c, rd = .inr (g, lv', c) → ∃ M' len', rdF M = some M' ∧ tfr M M' ∧ RR M' q n g ord len' lv' (cl.length + 1) ∧ P M' len' (cl ++ [c]))
def pLW (M : sp_Mem) (len : Nat) (cl : List GC) : Prop := RLW (sp_I M 113) (sp_I M 114) (sp_I M 115) len cl
theorem law_r {cl : List GC} (hF : 2000 ≤ F) (h12 : cl.length < 12) (h : RR M q n f false len lv cl.length) (hP : pLW M len cl) : StR q n false (fX11_readLaw F) (lawR q n f lv) pLW M cl := by
  obtain ⟨hT, hK, h23, h21, h26, h20, h19, hC, hlv, hnc0, hl⟩ := h
  have hR : RR M q n f false len lv cl.length := ⟨hT, hK, h23, h21, h26, h20, h19, hC, hlv, hnc0, hl⟩
  have n12 : ¬ (12 : Int32) ≤ sp_I M 103 21 := by rw [h21]; exact nI_ge (b := 12) (by omega) (by omega)
  unfold lawR
  cases hx : wdx q n f cs_0 with
  | none =>
    refine ⟨fun g e => ?_, fun g lv' c e => (by cases e)⟩
    cases e
    obtain ⟨M', e1, e2, e3, e4, e5, e6⟩ := mf_r (F := F) hT hK h19 hC.1
    refine ⟨M', ?_, e2.mono (by decide) (by decide), e3, e4, Or.inl ⟨e5, e6⟩⟩
    unfold fX11_readLaw
    rw [verb_r (by omega) hT hK hC.1, hx]
    show (if (-1 : Int32) = -1 then _ else _) = _
    rw [if_pos rfl]
    unfold fX11_readLaw_j53 fX11_readLaw_j54
    rw [e1, Option.bind_some, if_neg (show ¬ sp_I M' 103 19 = 0 by rw [e5]; decide)]
  | some j =>
    have hj : j < 4 := wdx_lt hx
    have hg := nxt_gt hK.1 (show tkS q n f ≠ 0 by rw [wdx_S hx]; decide)
    obtain ⟨M1, e1, e2, e3⟩ := RR_next (F := F) (by omega) hR
    have e113 : sp_I M1 113 = sp_I M 113 := fr_A (SA := [113]) (SB := []) e2 (by decide) 113 (by decide)
    have e21 := e3.2.2.2.1
    obtain ⟨M2, z1, z2, z3, z4⟩ := zl_113 (F := F) (a := 8 * cl.length) (a1 := nI j) (kx := fun b15 b16 M14 => (sp_ix 96 b16).bind fun j17 => sp_do (sp_setI M14 113 j17 b15) fun M18 => sp_do (sp_setI M18 103 21 ((sp_I M18 103 21) + 1)) fun M19 => (sp_ix 96 (b16 + 3)).bind fun j20 => sp_do (sp_setI M19 113 j20 (sp_I M19 103 23)) fun M21 => if 2 ≤ b15 then (fX11_readLaw_j135 F b16 M21) else ((fX11_readExpression F M21 0).bind fun M33 => fX11_readLaw_j135 F b16 M33)) (by omega) 8 0 F M1 (by omega) (by omega)
    let M3 := sp_setI M2 113 (8 * cl.length) (nI j)
    let M4 := sp_setI M3 103 21 (nI (cl.length + 1))
    let M5 := sp_setI M4 113 (8 * cl.length + 3) (nI len)
    have f5 : sp_fr [113] [(103, 21)] M1 M5 := ((((z2.mono (by decide) (by decide))).tr (sp_fr_I (Or.inl (by decide)) rfl)).tr (sp_fr_I (Or.inr (by decide)) rfl)).tr (sp_fr_I (Or.inl (by decide)) rfl)
    have R5 : RR M5 q n (nxt q n f) false len lv (cl.length + 1) := by
      obtain ⟨d1, d2, d3, d4, d5, d6, d7, d8, d9, d10, d11⟩ := e3
      exact ⟨TXR_fr f5 d1 (by decide), TKR_fr f5 d2 (by decide), (f5.1 103 23 (by decide) (by decide)).trans d3, by rw [I_ne _ _ _ (by decide)]; exact I_eq _ _ _ _, (f5.1 103 26 (by decide) (by decide)).trans d5, (f5.1 103 20 (by decide) (by decide)).trans d6, (f5.1 103 19 (by decide) (by decide)).trans d7, i8_fr f5 (by decide) d8, d9, by omega, d11⟩
    have h0 : sp_I M5 113 (8 * cl.length) = nI j := by rw [I_nf _ _ _ (by omega), I_ne _ _ _ (by decide)]; exact I_eq _ _ _ _
    have h3 : sp_I M5 113 (8 * cl.length + 3) = nI len := I_eq _ _ _ _
    have hlo : ∀ i, i < 8 * cl.length → sp_I M5 113 i = sp_I M 113 i := fun i hi => by rw [I_nf _ _ _ (by omega), I_ne _ _ _ (by decide), I_nf _ _ _ (by omega), z3 i (by omega), e113]
    have rc5 : rcM M5 0 len = rcM M 0 len := (rcM_fr f5 (by decide)).trans (rcM_fr e2 (by decide))
    have t5 : tfr M M5 := (e2.mono (by decide) (by decide)).tr (f5.mono (by decide) (by decide))
    have pre : fX11_readLaw F M = (if (2 : Int32) ≤ nI j then (fX11_readLaw_j135 F (nI (8 * cl.length)) M5) else ((fX11_readExpression F M5 0).bind fun M33 => fX11_readLaw_j135 F (nI (8 * cl.length)) M33)) := by
      unfold fX11_readLaw
      rw [verb_r (by omega) hT hK hC.1, hx]
      show (if nI (j + 0) = -1 then _ else _) = _
      rw [Nat.add_zero, if_neg (nI_m1 (by omega))]
      unfold fX11_readLaw_j54
      rw [if_neg n12, must_1 h19 (by decide) e1, Option.bind_some, if_pos e3.2.2.2.2.2.2.1]
      simp only [sp_do] at z1 ⊢
      rw [e21, show (8 : Int32) * nI cl.length = nI (8 * cl.length) from nI_mul 8 _]
      refine Eq.trans z1 ?_
      rw [sp_ix_nI (show 8 * cl.length < 96 by omega) (by omega), Option.bind_some, show sp_ix 96 (nI (8 * cl.length) + 3) = some (8 * cl.length + 3) from ix8 (d := 3) h12 (by omega), Option.bind_some]
      have q21 : sp_I (sp_setI M2 113 (8 * cl.length) (nI j)) 103 21 = nI cl.length := by rw [I_ne _ _ _ (by decide), z2.1 103 21 (by decide) (by decide)]; exact e21
      rw [q21, nI_1]
      have q23 : sp_I (sp_setI (sp_setI M2 113 (8 * cl.length) (nI j)) 103 21 (nI (cl.length + 1))) 103 23 = nI len := by rw [I_nf _ _ _ (by decide), I_ne _ _ _ (by decide), z2.1 103 23 (by decide) (by decide)]; exact e3.2.2.1
      rw [q23]
    -- from a tail to the clause
    have fin : ∀ (M6 : sp_Mem) (f6 len6 lv6 : Nat) (o : Option ev_S), tfr M M6 → RR M6 q n f6 false len6 lv6 (cl.length + 1) → (∀ i, i < len → rcM M6 0 len6 i = rcM M 0 len i) → len ≤ len6 → (∀ i, i ≤ 8 * cl.length + 3 → sp_I M6 113 i = sp_I M5 113 i) → ev_RO 0 10 (sp_I M6 114) (sp_I M6 115) len6 (nI len) (nI len6) o → fX11_readLaw F M = fX11_readLaw_j135 F (nI (8 * cl.length)) M6 → StR q n false (fX11_readLaw F) (tsR q n false f6 lv6 (j, o, none, 1, none)) pLW M cl := by
      intro M6 f6 len6 lv6 o t6 R6 c6 l6 H6 ro6 he
      have L := ltl_r (c := (j, o, none, 1, none)) hF h12 R6 rfl
      refine ⟨fun g e => ?_, fun g lv' c e => ?_⟩
      · obtain ⟨M', s1, s2, s3⟩ := L.1 g e
        exact ⟨M', he.trans s1, t6.tr s2, s3⟩
      · obtain ⟨M', len', s1, s2, s3, s4, s5, s6, s7, s8, s9, s10⟩ := L.2 g lv' c e
        refine ⟨M', len', he.trans s1, t6.tr s2, s3, ?_⟩
        have C0 : RLW (sp_I M' 113) (sp_I M' 114) (sp_I M' 115) len' cl := RLW_up (by omega) (fun i hi => (s4 i (by omega)).trans (c6 i hi)) (fun i hi => by rw [s6 i (by omega), H6 i (by omega), hlo i hi]) hP
        refine RLW_snoc C0 ?_ ?_ s10
        · rw [s6 _ (by omega), H6 _ (by omega), h0, s8]
        · rw [s6 _ (by omega), H6 _ (by omega), h3, s7, s9]
          exact RO_up s5 s4 ro6
    dsimp only
    by_cases h2 : j < 2
    · rw [if_pos h2]
      rw [if_neg (show ¬ (2 : Int32) ≤ nI j from nI_ge (b := 2) (by omega) (by omega))] at pre
      have V := vr_r (base := 20) hF (Or.inl rfl) R5
      cases hr : xr q n false 20 (nxt q n f) lv with
      | inl g1 =>
        refine ⟨fun g e => ?_, fun g lv' c e => (by cases e)⟩
        cases e
        obtain ⟨M6, s1, s2, s3⟩ := V.1 g1 hr
        obtain ⟨M7, t1, t2, t3⟩ := j135_bad (F := F) h12 s3
        exact ⟨M7, by rw [pre, show fX11_readExpression F M5 0 = some M6 from s1, Option.bind_some, t1], (t5.tr (s2.mono (by decide) (by decide))).tr t2, t3⟩
      | inr y =>
        obtain ⟨g1, lv1, v1⟩ := y
        obtain ⟨M6, len6, s1, s2, s3, s4, s5, t, s6, s7⟩ := V.2 g1 lv1 v1 hr
        refine fin M6 g1 len6 lv1 (some v1) (t5.tr (s2.mono (by decide) (by decide))) s3 (fun i hi => (s4 i hi).trans (congrFun rc5 i)) s5 (fun i _ => by rw [fr_A (SA := [113]) (SB := []) s2 (by decide) 113 (by decide)]) ⟨len, len6, t, rfl, rfl, Nat.le_refl _, s6, s7⟩ ?_
        rw [pre, show fX11_readExpression F M5 0 = some M6 from s1, Option.bind_some]
    · rw [if_neg h2]
      rw [if_pos (show (2 : Int32) ≤ nI j from nI_le (a := 2) (by omega) (by omega))] at pre
      exact fin M5 (nxt q n f) len lv none t5 R5 (fun i hi => congrFun rc5 i) (Nat.le_refl _) (fun i _ => rfl) ⟨len, by have := hT.1; have := hK.1; omega, rfl, rfl⟩ pre
end RLaw
