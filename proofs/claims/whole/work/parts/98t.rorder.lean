/-! ===== texts: the reference reads an order ===== -/
theorem owv_l {F n f : Nat} {q : Nat → Nat} {M : sp_Mem} {kx : Int32 → sp_Mem → Option sp_Mem} (hT : TXR M q n) (hK : TKR M q n f) : ∀ (l : List Int64) (i kf : Nat) (a : Int32), i + l.length = 4 → l.length < kf → (∀ j, j < l.length → sp_L M 129 (i + j) = l.getD j 0) → fX11_readOrder_l4 F kx kf a (nI i) M = kx (lsl (isP q n f) 0 l i a) M := by
  intro l
  induction l with
  | nil =>
    intro i kf a hi hk hl
    obtain ⟨kf, rfl⟩ : ∃ m, kf = m + 1 := ⟨kf - 1, by omega⟩
    rw [fX11_readOrder_l4, show i = 4 from hi, if_pos (by decide)]
    rfl
  | cons x xs ih =>
    intro i kf a hi hk hl
    obtain ⟨kf, rfl⟩ : ∃ m, kf = m + 1 := ⟨kf - 1, by omega⟩
    rw [List.length_cons] at hi hk
    have h0 : sp_L M 129 i = x := hl 0 (by simp)
    rw [fX11_readOrder_l4, if_neg ((show ∀ k, k < 4 → ¬ (4 : Int32) ≤ nI k by decide +kernel) i (by omega)), sp_ix_nI (show i < 4 by omega) (by omega), Option.bind_some, h0, nI_1, lsl]
    simp only [sp_do]
    rw [ih (i + 1) kf _ (by omega) (by omega) (fun j hj => by
      have := hl (j + 1) (by simp; omega)
      rw [show i + 1 + j = i + (j + 1) by omega, this]
      rfl)]
    congr 2
    by_cases z : isP q n f x = true
    · rw [if_neg (fun w => ((isWb (F := F) hT hK x).1 w) z), if_pos z]; rfl
    · rw [if_pos ((isWb (F := F) hT hK x).2 z), if_neg z]
def cs_2r : List Int64 := [99724, 755083, 23732, 525939]
theorem c129 : ∀ j, j < 4 → sp_L mm_311 129 j = cs_2r.getD j 0 := by decide +kernel
theorem overb_r {F n f : Nat} {q : Nat → Nat} {M : sp_Mem} {kx : Int32 → sp_Mem → Option sp_Mem} (hF : 1000 ≤ F) (hT : TXR M q n) (hK : TKR M q n f) (hC : i_C M) : fX11_readOrder_l4 F kx F (-1) 0 M = kx (oD 0 (-1) (wdx q n f cs_2r)) M := by
  rw [wdx_e, ← lsl_e isP_u cs_2r 0 (-1) (by decide +kernel)]
  exact owv_l (F := F) (kx := kx) hT hK cs_2r 0 F (-1) rfl (by show 4 < F; omega) (fun j hj => by
    have hj : j < 4 := hj
    rw [Nat.zero_add, hC.2.2.2.1 j hj, c129 j hj])
/-- the reference's number of an order's verb -/
def vp (j : Nat) : Nat := if j = 1 then 2 else if j = 2 then 1 else j
theorem vp_e {q : Nat → Nat} {n f : Nat} : (∀ j, wdx q n f cs_2 = some j → wdx q n f cs_2r = some (vp j)) ∧ (wdx q n f cs_2 = none → wdx q n f cs_2r = none) := by
  rw [wdx_e, wdx_e]
  unfold cs_2 cs_2r
  rw [fnd, fnd, fnd, fnd, fnd, fnd, fnd, fnd, fnd, fnd]
  by_cases a : isP q n f 99724 = true
  · rw [if_pos a, if_pos a]
    exact ⟨fun j e => (by cases e; rfl), fun e => (by cases e)⟩
  rw [if_neg a, if_neg a]
  by_cases b : isP q n f 23732 = true
  · have c : ¬ isP q n f 755083 = true := fun z => absurd (isP_u _ _ b z) (by decide)
    rw [if_pos b, if_neg c, if_pos b]
    exact ⟨fun j e => (by cases e; rfl), fun e => (by cases e)⟩
  rw [if_neg b, if_neg b]
  by_cases c : isP q n f 755083 = true
  · rw [if_pos c, if_pos c]
    exact ⟨fun j e => (by cases e; rfl), fun e => (by cases e)⟩
  rw [if_neg c, if_neg c]
  by_cases d : isP q n f 525939 = true
  · rw [if_pos d]
    exact ⟨fun j e => (by cases e; rfl), fun e => (by cases e)⟩
  rw [if_neg d]
  exact ⟨fun j e => (by cases e), fun _ => rfl⟩
def ROW (H gop garg : Nat → Int32) (lim : Nat) (cl : List GC) : Prop := ∀ i c, cl[i]? = some c → H (8 * i) = nI (vp c.1) ∧ ev_RO 1 16 gop garg lim (H (8 * i + 1)) (H (8 * i + 2)) c.2.1 ∧ ev_RO 1 16 gop garg lim (H (8 * i + 3)) (H (8 * i + 4)) c.2.2.1 ∧ ev_RO 1 16 gop garg lim (H (8 * i + 5)) (H (8 * i + 6)) c.2.2.2.2 ∧ H (8 * i + 7) = nI c.2.2.2.1
def pOW (M : sp_Mem) (len : Nat) (cl : List GC) : Prop := ROW (sp_I M 130) (sp_I M 114) (sp_I M 115) len cl
theorem pOW_fr {M M' : sp_Mem} {A : List Nat} {B : List (Nat × Nat)} {len : Nat} {cl : List GC} (hd : dj [130, 114, 115] [] A B = true) (hf : sp_fr A B M M') (h : pOW M len cl) : pOW M' len cl := by
  unfold pOW
  rw [fr_A hf hd 130 (by decide), fr_A hf hd 114 (by decide), fr_A hf hd 115 (by decide)]
  exact h
theorem ROW_up {H H' g1 g2 h1 h2 : Nat → Int32} {len len' : Nat} {cl : List GC} (hl : len ≤ len') (hc : ∀ i, i < len → ev_rcf 1 g2 h2 len' i = ev_rcf 1 g1 h1 len i) (hH : ∀ i, i < 8 * cl.length → H' i = H i) (h : ROW H g1 h1 len cl) : ROW H' g2 h2 len' cl := by
  intro i c hi
  have hlt : i < cl.length := (List.getElem?_eq_some_iff.mp hi).1
  obtain ⟨a1, a2, a3, a4, a5⟩ := h i c hi
  rw [hH _ (by omega), hH _ (by omega), hH _ (by omega), hH _ (by omega), hH _ (by omega), hH _ (by omega), hH _ (by omega), hH _ (by omega)]
  exact ⟨a1, RO_up hl hc a2, RO_up hl hc a3, RO_up hl hc a4, a5⟩
theorem ROW_snoc {H gop garg : Nat → Int32} {lim : Nat} {cl : List GC} {c : GC} (h : ROW H gop garg lim cl) (h0 : H (8 * cl.length) = nI (vp c.1)) (h1 : ev_RO 1 16 gop garg lim (H (8 * cl.length + 1)) (H (8 * cl.length + 2)) c.2.1) (h2 : ev_RO 1 16 gop garg lim (H (8 * cl.length + 3)) (H (8 * cl.length + 4)) c.2.2.1) (h3 : ev_RO 1 16 gop garg lim (H (8 * cl.length + 5)) (H (8 * cl.length + 6)) c.2.2.2.2) (h4 : H (8 * cl.length + 7) = nI c.2.2.2.1) : ROW H gop garg lim (cl ++ [c]) := by
  intro i x hi
  by_cases z : i < cl.length
  · rw [List.getElem?_append_left z] at hi
    exact h i x hi
  · rw [List.getElem?_append_right (by omega)] at hi
    have hi0 : i - cl.length = 0 := by
      by_cases y : i - cl.length = 0
      · exact y
      · rw [List.getElem?_eq_none (by rw [List.length_singleton]; omega)] at hi
        cases hi
    have e : i = cl.length := by omega
    rw [hi0] at hi
    have : c = x := Option.some.inj hi
    subst this
    subst e
    exact ⟨h0, h1, h2, h3, h4⟩
theorem zl_130 {F a : Nat} {a1 : Int32} {kx : Int32 → Int32 → sp_Mem → Option sp_Mem} (ha : a + 8 ≤ 96) : ∀ (e d kf : Nat) (M : sp_Mem), d + e = 8 → e < kf → ∃ M', fX11_readOrder_l85 F kx kf a1 (nI a) (nI d) M = kx a1 (nI a) M' ∧ sp_fr [130] [] M M' ∧ (∀ i, i < a + d → sp_I M' 130 i = sp_I M 130 i) ∧ (∀ i, a + d ≤ i → i < a + 8 → sp_I M' 130 i = 0)
  | 0, d, kf, M, hd, hk => by
    obtain ⟨kf, rfl⟩ : ∃ m, kf = m + 1 := ⟨kf - 1, by omega⟩
    refine ⟨M, ?_, sp_fr.refl _ _ _, fun i _ => rfl, fun i h1 h2 => by omega⟩
    rw [fX11_readOrder_l85, if_pos (show (8 : Int32) ≤ nI d by rw [show d = 8 by omega]; decide)]
  | e + 1, d, kf, M, hd, hk => by
    obtain ⟨kf, rfl⟩ : ∃ m, kf = m + 1 := ⟨kf - 1, by omega⟩
    obtain ⟨M', r1, r2, r3, r4⟩ := zl_130 (F := F) (a1 := a1) (kx := kx) ha e (d + 1) kf (sp_setI M 130 (a + d) 0) (by omega) (by omega)
    refine ⟨M', ?_, (sp_fr_I (Or.inl (by decide)) rfl).tr r2, fun i hi => ?_, fun i h1 h2 => ?_⟩
    · rw [← r1, fX11_readOrder_l85, if_neg (show ¬ (8 : Int32) ≤ nI d from nI_ge (b := 8) (by omega) (by omega)), nI_add, sp_ix_nI (show a + d < 96 by omega) (by omega), Option.bind_some]
      simp only [sp_do]
      rw [nI_1]
    · rw [r3 i (by omega), I_nf _ _ _ (by omega)]
    · by_cases z : i = a + d
      · rw [r3 i (by omega), z]; exact I_eq _ _ _ _
      · exact r4 i (by omega) h2
section ROrd
variable {F n f len lv nc : Nat} {q : Nat → Nat} {M : sp_Mem} {c : GC}
theorem j251_r (hnc : nc < 12) : fX11_readOrder_j251 F (nI (8 * nc)) M = some (sp_setI M 130 (8 * nc + 6) (sp_I M 103 23)) := by
  unfold fX11_readOrder_j251
  rw [show sp_ix 96 (nI (8 * nc) + 6) = some (8 * nc + 6) from ix8 (d := 6) hnc (by omega), Option.bind_some]
  rfl
theorem j213_pre (hnc : nc < 12) {M2 : sp_Mem} (h2 : M2 = sp_setI M 130 (8 * nc + 5) (sp_I M 103 23)) : fX11_readOrder_j213 F (nI (8 * nc)) M = (if (sp_I M 103 19) = 0 then (if (fX11_isWord M2 294) = 0 then (fX11_readOrder_j251 F (nI (8 * nc)) M2) else ((fX11_next F M2).bind fun M31 => (fX11_readExpression F M31 1).bind fun M32 => fX11_readOrder_j251 F (nI (8 * nc)) M32)) else (fX11_readOrder_j251 F (nI (8 * nc)) M2)) := by
  unfold fX11_readOrder_j213
  rw [show sp_ix 96 (nI (8 * nc) + 5) = some (8 * nc + 5) from ix8 (d := 5) hnc (by omega), Option.bind_some]
  simp only [sp_do]
  rw [← h2, show sp_I M2 103 19 = sp_I M 103 19 by rw [h2, I_ne _ _ _ (by decide)]]
theorem j213_bad {g : Nat} (hnc : nc < 12) (h : BD M q n g) : ∃ M', fX11_readOrder_j213 F (nI (8 * nc)) M = some M' ∧ tfr M M' ∧ BD M' q n g := by
  let M2 := sp_setI M 130 (8 * nc + 5) (sp_I M 103 23)
  let M3 := sp_setI M2 130 (8 * nc + 6) (sp_I M2 103 23)
  have f2 : sp_fr [130] [] M M2 := sp_fr_I (Or.inl (by decide)) rfl
  have f3 : sp_fr [130] [] M M3 := f2.tr (sp_fr_I (Or.inl (by decide)) rfl)
  have B2 := BD_fr f2 (by decide) h
  refine ⟨M3, ?_, f3.mono (by decide) (by decide), BD_fr f3 (by decide) h⟩
  rw [j213_pre hnc (M2 := M2) rfl]
  obtain ⟨b1, b2, b3⟩ := B2
  have e19 : sp_I M2 103 19 = sp_I M 103 19 := f2.1 103 19 (by decide) (by decide)
  rcases b3 with ⟨a, b⟩ | ⟨a, b, c⟩
  · rw [if_neg (show ¬ sp_I M 103 19 = 0 by rw [← e19, a]; decide), j251_r hnc]
  · rw [if_pos (show sp_I M 103 19 = 0 by rw [← e19, a]), if_pos ((isw_1 b1 b).2 (sg_w c _)), j251_r hnc]
theorem otl_r (hF : 2000 ≤ F) (hnc : nc < 12) (h : RR M q n f true len lv (nc + 1)) (hc : c.2.2.2.2 = none) :
  (∀ g, tsR q n true f lv c = .inl g → ∃ M', fX11_readOrder_j213 F (nI (8 * nc)) M = some M' ∧ tfr M M' ∧ BD M' q n g) ∧
  (∀ g lv' c', tsR q n true f lv c = .inr (g, lv', c') → ∃ M' len', fX11_readOrder_j213 F (nI (8 * nc)) M = some M' ∧ tfr M M' ∧ RR M' q n g true len' lv' (nc + 1) ∧ (∀ i, i < len → rcM M' 1 len' i = rcM M 1 len i) ∧ len ≤ len' ∧ (∀ i, i ≠ 8 * nc + 5 → i ≠ 8 * nc + 6 → sp_I M' 130 i = sp_I M 130 i) ∧ ev_RO 1 16 (sp_I M' 114) (sp_I M' 115) len' (sp_I M' 130 (8 * nc + 5)) (sp_I M' 130 (8 * nc + 6)) c'.2.2.2.2) := by
  let M2 := sp_setI M 130 (8 * nc + 5) (sp_I M 103 23)
  have f2 : sp_fr [130] [] M M2 := sp_fr_I (Or.inl (by decide)) rfl
  have R2 : RR M2 q n f true len lv (nc + 1) := RR_fr f2 (by decide) h
  have h23 : sp_I M 103 23 = nI len := h.2.2.1
  have g5 : sp_I M2 130 (8 * nc + 5) = nI len := by rw [I_eq, h23]
  have glo : ∀ i, i ≠ 8 * nc + 5 → sp_I M2 130 i = sp_I M 130 i := fun i hi => I_nf _ _ _ hi
  have W := isw_1 (a := 294) R2.1 R2.2.1
  have r2 : rcM M2 1 len = rcM M 1 len := rcM_fr f2 (by decide)
  have hl400 : len ≤ 400 := by
    have := h.2.2.2.2.2.2.2.2.2.2
    have := h.2.1.1
    have := h.1.1
    omega
  rw [j213_pre hnc (M2 := M2) rfl, if_pos h.2.2.2.2.2.2.1]
  unfold tsR
  by_cases hx : wdx q n f cs_1 = some 0
  · obtain ⟨M3, e1, e2, e3⟩ := RR_next (F := F) (by omega) R2
    have V := vr_r (base := 21) hF (Or.inr rfl) e3
    rw [if_pos hx, if_neg (W.1 hx), e1, Option.bind_some]
    have e113 : sp_I M3 130 = sp_I M2 130 := fr_A (SA := [130]) (SB := []) e2 (by decide) 130 (by decide)
    cases hr : xr q n true 21 (nxt q n f) lv with
    | inl g1 =>
      refine ⟨fun g e => ?_, fun g lv' c' e => (by cases e)⟩
      cases e
      obtain ⟨M4, s1, s2, s3⟩ := V.1 g1 hr
      have f5 : sp_fr [130] [] M4 (sp_setI M4 130 (8 * nc + 6) (sp_I M4 103 23)) := sp_fr_I (Or.inl (by decide)) rfl
      refine ⟨_, by rw [show fX11_readExpression F M3 1 = some M4 from s1, Option.bind_some, j251_r hnc], (((f2.mono (by decide) (by decide)).tr (e2.mono (by decide) (by decide))).tr (s2.mono (by decide) (by decide))).tr (f5.mono (by decide) (by decide)), BD_fr f5 (by decide) s3⟩
    | inr y =>
      obtain ⟨g1, lv1, v1⟩ := y
      refine ⟨fun g e => (by cases e), fun g lv' c' e => ?_⟩
      cases e
      obtain ⟨M4, len4, s1, s2, s3, s4, s5, t, s6, s7⟩ := V.2 g1 lv1 v1 hr
      have f5 : sp_fr [130] [] M4 (sp_setI M4 130 (8 * nc + 6) (sp_I M4 103 23)) := sp_fr_I (Or.inl (by decide)) rfl
      have e113b : sp_I M4 130 = sp_I M2 130 := (fr_A (SA := [130]) (SB := []) s2 (by decide) 130 (by decide)).trans e113
      have r5 : ∀ L, rcM (sp_setI M4 130 (8 * nc + 6) (sp_I M4 103 23)) 1 L = rcM M4 1 L := fun L => rcM_fr f5 (by decide)
      have r3 : rcM M3 1 len = rcM M2 1 len := rcM_fr e2 (by decide)
      refine ⟨_, len4, by rw [show fX11_readExpression F M3 1 = some M4 from s1, Option.bind_some, j251_r hnc], (((f2.mono (by decide) (by decide)).tr (e2.mono (by decide) (by decide))).tr (s2.mono (by decide) (by decide))).tr (f5.mono (by decide) (by decide)), RR_fr f5 (by decide) s3, fun i hi => ?_, s5, fun i hi hi6 => ?_, ?_⟩
      · rw [r5, ← r2, ← r3]; exact s4 i hi
      · rw [I_nf _ _ _ hi6, e113b]; exact glo i hi
      · refine ⟨len, len4, t, ?_, ?_, Nat.le_refl _, s6, ?_⟩
        · rw [I_nf _ _ _ (by omega), e113b]; exact g5
        · rw [I_eq]; exact s3.2.2.1
        · exact ev_Seg_cg s7 (fun i _ hi => congrFun (r5 len4) i)
  · rw [if_neg hx, if_pos (W.2 hx), j251_r hnc]
    refine ⟨fun g e => (by cases e), fun g lv' c' e => ?_⟩
    cases e
    have f3 : sp_fr [130] [] M2 (sp_setI M2 130 (8 * nc + 6) (sp_I M2 103 23)) := sp_fr_I (Or.inl (by decide)) rfl
    refine ⟨_, len, rfl, (f2.tr f3).mono (by decide) (by decide), RR_fr f3 (by decide) R2, fun i hi => ?_, Nat.le_refl _, fun i hi hi6 => ?_, ?_⟩
    · rw [show rcM (sp_setI M2 130 (8 * nc + 6) (sp_I M2 103 23)) 1 len = rcM M2 1 len from rcM_fr f3 (by decide), r2]
    · rw [I_nf _ _ _ hi6]; exact glo i hi
    · rw [hc]
      refine ⟨len, hl400, ?_, ?_⟩
      · rw [I_nf _ _ _ (by omega)]; exact g5
      · rw [I_eq]; exact R2.2.2.1
theorem j165_pre (hnc : nc < 12) {M2 : sp_Mem} (h2 : M2 = sp_setI M 130 (8 * nc + 7) 1) : fX11_readOrder_j165 F (nI (8 * nc)) M = (if (sp_I M 103 19) = 0 then (if (fX11_isWord M2 21279923) = 0 then (fX11_readOrder_j213 F (nI (8 * nc)) M2) else ((fX11_next F M2).bind fun M34 => (fX11_number F M34 1 20).bind fun x35 => fX11_readOrder_j213 F (nI (8 * nc)) (sp_setI x35.2 130 (8 * nc + 7) x35.1))) else (fX11_readOrder_j213 F (nI (8 * nc)) M2)) := by
  unfold fX11_readOrder_j165
  rw [show sp_ix 96 (nI (8 * nc) + 7) = some (8 * nc + 7) from ix8 (d := 7) hnc (by omega), Option.bind_some]
  simp only [sp_do]
  rw [← h2, show sp_I M2 103 19 = sp_I M 103 19 by rw [h2, I_ne _ _ _ (by decide)]]
  rfl
theorem j165_bad {g : Nat} (hnc : nc < 12) (h : BD M q n g) : ∃ M', fX11_readOrder_j165 F (nI (8 * nc)) M = some M' ∧ tfr M M' ∧ BD M' q n g := by
  let M2 := sp_setI M 130 (8 * nc + 7) 1
  have f2 : sp_fr [130] [] M M2 := sp_fr_I (Or.inl (by decide)) rfl
  have B2 := BD_fr f2 (by decide) h
  obtain ⟨M', e1, e2, e3⟩ := j213_bad (F := F) hnc B2
  refine ⟨M', ?_, (f2.mono (by decide) (by decide)).tr e2, e3⟩
  rw [j165_pre hnc (M2 := M2) rfl]
  obtain ⟨b1, b2, b3⟩ := B2
  have e19 : sp_I M2 103 19 = sp_I M 103 19 := f2.1 103 19 (by decide) (by decide)
  rcases b3 with ⟨a, b⟩ | ⟨a, b, c⟩
  · rw [if_neg (show ¬ sp_I M 103 19 = 0 by rw [← e19, a]; decide), e1]
  · rw [if_pos (show sp_I M 103 19 = 0 by rw [← e19, a]), if_pos ((isw_1 b1 b).2 (sg_w c _)), e1]
theorem otm_r (hF : 2000 ≤ F) (hnc : nc < 12) (h : RR M q n f true len lv (nc + 1)) (hc : c.2.2.2.2 = none) (hc1 : c.2.2.2.1 = 1) :
  (∀ g, tmR q n f lv c = .inl g → ∃ M', fX11_readOrder_j165 F (nI (8 * nc)) M = some M' ∧ tfr M M' ∧ BD M' q n g) ∧
  (∀ g lv' c', tmR q n f lv c = .inr (g, lv', c') → ∃ M' len', fX11_readOrder_j165 F (nI (8 * nc)) M = some M' ∧ tfr M M' ∧ RR M' q n g true len' lv' (nc + 1) ∧ (∀ i, i < len → rcM M' 1 len' i = rcM M 1 len i) ∧ len ≤ len' ∧ (∀ i, i < 8 * nc + 5 → sp_I M' 130 i = sp_I M 130 i) ∧ ev_RO 1 16 (sp_I M' 114) (sp_I M' 115) len' (sp_I M' 130 (8 * nc + 5)) (sp_I M' 130 (8 * nc + 6)) c'.2.2.2.2 ∧ sp_I M' 130 (8 * nc + 7) = nI c'.2.2.2.1 ∧ c'.1 = c.1 ∧ c'.2.1 = c.2.1 ∧ c'.2.2.1 = c.2.2.1) := by
  let M2 := sp_setI M 130 (8 * nc + 7) 1
  have f2 : sp_fr [130] [] M M2 := sp_fr_I (Or.inl (by decide)) rfl
  have R2 : RR M2 q n f true len lv (nc + 1) := RR_fr f2 (by decide) h
  have W := isw_1 (a := 21279923) R2.1 R2.2.1
  have r2 : rcM M2 1 len = rcM M 1 len := rcM_fr f2 (by decide)
  rw [j165_pre hnc (M2 := M2) rfl, if_pos h.2.2.2.2.2.2.1]
  unfold tmR
  by_cases hx : wdx q n f cs_5 = some 0
  · obtain ⟨M3, e1, e2, e3⟩ := RR_next (F := F) (by omega) R2
    rw [if_pos hx, if_neg (W.1 hx), e1, Option.bind_some]
    have h4 := tkS4 (f := nxt q n f) (fun i hi => (e3.1.2.2 i hi).2)
    have h16 : sp_I M3 103 16 = nI (tkS q n (nxt q n f)) := e3.2.1.2.2.2.1
    have h19 := e3.2.2.2.2.2.2.1
    have a1 : (1 : Int64).toInt = 1 := rfl
    have a20 : (20 : Int64).toInt = 20 := rfl
    by_cases h5 : tkS q n (nxt q n f) = 2 ∧ 1 ≤ nbT q n (nxt q n f) ∧ nbT q n (nxt q n f) ≤ 20
    · rw [if_pos h5]
      obtain ⟨b, r1, rr2⟩ := num_r e3.1 e3.2.1 h5.1
      have rr2 : (b = nbT q n (nxt q n f) ∧ b ≤ 10000009) ∨ (1000000 < b ∧ b ≤ 10000009 ∧ 1000000 < nbT q n (nxt q n f)) := rr2
      have hb : b = nbT q n (nxt q n f) := by omega
      have hbi : (Int64.ofNat b).toInt = b := i64n (by omega)
      obtain ⟨M4, g1, g2, g3⟩ := RR_next (F := F) (by omega) e3
      have hnum : fX11_number F M3 1 20 = some (nI (nbT q n (nxt q n f)), M4) := by
        unfold fX11_number
        simp only [sp_do]
        rw [h16, h5.1, if_pos (show nI 2 = 2 from rfl), r1, if_neg (show ¬ fX11_in (Int64.ofNat b) 1 20 = 0 by rw [m_in, hbi, a1, a20]; omega), must_1 h19 (by decide) g1, Option.bind_some, n64s b (by omega), hb]
      rw [hnum, Option.bind_some]
      let M5 := sp_setI M4 130 (8 * nc + 7) (nI (nbT q n (nxt q n f)))
      have f5 : sp_fr [130] [] M4 M5 := sp_fr_I (Or.inl (by decide)) rfl
      have R5 := RR_fr f5 (by decide) g3
      have fr5 : tfr M M5 := (((f2.mono (by decide) (by decide)).tr (e2.mono (by decide) (by decide))).tr (g2.mono (by decide) (by decide))).tr (f5.mono (by decide) (by decide))
      have rc5 : rcM M5 1 len = rcM M 1 len := ((rcM_fr f5 (by decide)).trans (rcM_fr g2 (by decide))).trans ((rcM_fr e2 (by decide)).trans r2)
      have H5 : ∀ i, i ≠ 8 * nc + 7 → sp_I M5 130 i = sp_I M 130 i := fun i hi => by
        rw [I_nf _ _ _ hi, fr_A (SA := [130]) (SB := []) g2 (by decide) 130 (by decide), fr_A (SA := [130]) (SB := []) e2 (by decide) 130 (by decide), I_nf _ _ _ hi]
      have L := otl_r (c := (c.1, c.2.1, c.2.2.1, nbT q n (nxt q n f), c.2.2.2.2)) hF hnc R5 hc
      refine ⟨fun g e => ?_, fun g lv' c' e => ?_⟩
      · obtain ⟨M', s1, s2, s3⟩ := L.1 g e
        exact ⟨M', s1, fr5.tr s2, s3⟩
      · obtain ⟨M', len', s1, s2, s3, s4, s5, s6, s7⟩ := L.2 g lv' c' e
        obtain ⟨p1, p2, p3, p4⟩ := tsR_p e
        refine ⟨M', len', s1, fr5.tr s2, s3, fun i hi => (s4 i hi).trans (congrFun rc5 i), s5, fun i hi => ?_, s7, ?_, p1, p2, p3⟩
        · rw [s6 i (by omega) (by omega), H5 i (by omega)]
        · rw [s6 _ (by omega) (by omega), p4]; exact I_eq _ _ _ _
    · rw [if_neg h5]
      refine ⟨fun g e => ?_, fun g lv' c' e => (by cases e)⟩
      cases e
      obtain ⟨M4, g1, g2, g3, g4, g5, g6⟩ := mf_r (F := F) e3.1 e3.2.1 h19 e3.2.2.2.2.2.2.2.1.1
      have fin : ∀ x, fX11_number F M3 1 20 = some (x, M4) → ∃ M', ((fX11_number F M3 1 20).bind fun x35 => fX11_readOrder_j213 F (nI (8 * nc)) (sp_setI x35.2 130 (8 * nc + 7) x35.1)) = some M' ∧ tfr M M' ∧ BD M' q n (nxt q n f) := by
        intro x hx5
        have f5 : sp_fr [130] [] M4 (sp_setI M4 130 (8 * nc + 7) x) := sp_fr_I (Or.inl (by decide)) rfl
        obtain ⟨M', s1, s2, s3⟩ := j213_bad (F := F) hnc (BD_fr f5 (by decide) (show BD M4 q n (nxt q n f) from ⟨g3, g4, Or.inl ⟨g5, g6⟩⟩))
        refine ⟨M', by rw [hx5, Option.bind_some]; exact s1, ((((f2.mono (by decide) (by decide)).tr (e2.mono (by decide) (by decide))).tr (g2.mono (by decide) (by decide))).tr (f5.mono (by decide) (by decide))).tr s2, s3⟩
      refine fin (Int64.toInt32 (sp_L M3 103 17)) ?_
      unfold fX11_number
      simp only [sp_do]
      rw [h16]
      by_cases z : tkS q n (nxt q n f) = 2
      · obtain ⟨b, r1, rr2⟩ := num_r e3.1 e3.2.1 z
        have rr2 : (b = nbT q n (nxt q n f) ∧ b ≤ 10000009) ∨ (1000000 < b ∧ b ≤ 10000009 ∧ 1000000 < nbT q n (nxt q n f)) := rr2
        have hbi : (Int64.ofNat b).toInt = b := i64n (by omega)
        have hgt : ¬ (1 ≤ nbT q n (nxt q n f) ∧ nbT q n (nxt q n f) ≤ 20) := fun w => h5 ⟨z, w⟩
        rw [z, if_pos (show nI 2 = 2 from rfl), r1, if_pos (show fX11_in (Int64.ofNat b) 1 20 = 0 by rw [m_in, hbi, a1, a20]; omega), g1, Option.bind_some]
      · rw [if_neg (show ¬ nI (tkS q n (nxt q n f)) = 2 from fun w => z ((nIe (b := 2) (by omega) (by omega)).1 w)), g1, Option.bind_some]
  · rw [if_neg hx, if_pos (W.2 hx)]
    have L := otl_r (c := c) hF hnc R2 hc
    refine ⟨fun g e => ?_, fun g lv' c' e => ?_⟩
    · obtain ⟨M', s1, s2, s3⟩ := L.1 g e
      exact ⟨M', s1, (f2.mono (by decide) (by decide)).tr s2, s3⟩
    · obtain ⟨M', len', s1, s2, s3, s4, s5, s6, s7⟩ := L.2 g lv' c' e
      obtain ⟨p1, p2, p3, p4⟩ := tsR_p e
      refine ⟨M', len', s1, (f2.mono (by decide) (by decide)).tr s2, s3, fun i hi => (s4 i hi).trans (congrFun r2 i), s5, fun i hi => ?_, s7, ?_, p1, p2, p3⟩
      · rw [s6 i (by omega) (by omega), I_nf _ _ _ (by omega)]
      · rw [s6 _ (by omega) (by omega), p4, hc1]; exact I_eq _ _ _ _
/-- a sum of an order -/
theorem rs_r {d : Nat} (hF : 2000 ≤ F) (hnc : nc < 12) (hd : d = 1 ∨ d = 3) (h : RR M q n f true len lv (nc + 1)) :
  (∀ g, xr q n true 20 f lv = .inl g → ∃ M', fX11_readSum F M (nI (8 * nc) + nI d) = some M' ∧ tfr M M' ∧ BD M' q n g) ∧
  (∀ g lv' v, xr q n true 20 f lv = .inr (g, lv', v) → ∃ M' len', fX11_readSum F M (nI (8 * nc) + nI d) = some M' ∧ tfr M M' ∧ RR M' q n g true len' lv' (nc + 1) ∧ (∀ i, i < len → rcM M' 1 len' i = rcM M 1 len i) ∧ len ≤ len' ∧ (∀ i, i ≠ 8 * nc + d → i ≠ 8 * nc + d + 1 → sp_I M' 130 i = sp_I M 130 i) ∧ ev_RO 1 16 (sp_I M' 114) (sp_I M' 115) len' (sp_I M' 130 (8 * nc + d)) (sp_I M' 130 (8 * nc + d + 1)) (some v)) := by
  let M2 := sp_setI M 130 (8 * nc + d) (nI len)
  have f2 : sp_fr [130] [] M M2 := sp_fr_I (Or.inl (by decide)) rfl
  have R2 : RR M2 q n f true len lv (nc + 1) := RR_fr f2 (by decide) h
  have r2 : rcM M2 1 len = rcM M 1 len := rcM_fr f2 (by decide)
  have V := vr_r (base := 20) hF (Or.inl rfl) R2
  have i2 : nI (8 * nc) + nI d + 1 = nI (8 * nc + d + 1) := by rw [nI_add, nI_1]
  have pre : ∀ M4, fX11_readExpression F M2 0 = some M4 → fX11_readSum F M (nI (8 * nc) + nI d) = some (sp_setI M4 130 (8 * nc + d + 1) (sp_I M4 103 23)) := by
    intro M4 he
    unfold fX11_readSum
    rw [ix8 hnc (show d < 8 by omega), Option.bind_some, h.2.2.1]
    simp only [sp_do]
    rw [if_pos (show sp_I (sp_setI M 130 (8 * nc + d) (nI len)) 103 19 = 0 by rw [I_ne _ _ _ (by decide)]; exact h.2.2.2.2.2.2.1), he, Option.bind_some]
    unfold fX11_readSum_j22
    rw [i2, sp_ix_nI (show 8 * nc + d + 1 < 96 by omega) (by omega), Option.bind_some]
    rfl
  refine ⟨fun g e => ?_, fun g lv' v e => ?_⟩
  · obtain ⟨M4, s1, s2, s3⟩ := V.1 g e
    have f5 : sp_fr [130] [] M4 (sp_setI M4 130 (8 * nc + d + 1) (sp_I M4 103 23)) := sp_fr_I (Or.inl (by decide)) rfl
    exact ⟨_, pre M4 s1, ((f2.mono (by decide) (by decide)).tr (s2.mono (by decide) (by decide))).tr (f5.mono (by decide) (by decide)), BD_fr f5 (by decide) s3⟩
  · obtain ⟨M4, len4, s1, s2, s3, s4, s5, t, s6, s7⟩ := V.2 g lv' v e
    have f5 : sp_fr [130] [] M4 (sp_setI M4 130 (8 * nc + d + 1) (sp_I M4 103 23)) := sp_fr_I (Or.inl (by decide)) rfl
    have e130 : sp_I M4 130 = sp_I M2 130 := fr_A (SA := [130]) (SB := []) s2 (by decide) 130 (by decide)
    have r5 : ∀ L, rcM (sp_setI M4 130 (8 * nc + d + 1) (sp_I M4 103 23)) 1 L = rcM M4 1 L := fun L => rcM_fr f5 (by decide)
    refine ⟨_, len4, pre M4 s1, ((f2.mono (by decide) (by decide)).tr (s2.mono (by decide) (by decide))).tr (f5.mono (by decide) (by decide)), RR_fr f5 (by decide) s3, fun i hi => ?_, s5, fun i h1 h2 => ?_, len, len4, t, ?_, ?_, Nat.le_refl _, s6, ?_⟩
    · rw [r5, ← r2]; exact s4 i hi
    · rw [I_nf _ _ _ h2, e130, I_nf _ _ _ h1]
    · rw [I_nf _ _ _ (by omega), e130]; exact I_eq _ _ _ _
    · rw [I_eq]; exact s3.2.2.1
    · exact ev_Seg_cg s7 (fun i _ hi => congrFun (r5 len4) i)
/-- once it has failed -/
theorem j158_bad {g : Nat} (hnc : nc < 12) (h : TXR M q n ∧ i_C M ∧ sp_I M 103 19 = 1 ∧ sp_I M 103 18 = nI g) : ∃ M', fX11_readOrder_j158 F (nI (8 * nc)) M = some M' ∧ tfr M M' ∧ BD M' q n g := by
  let M2 := sp_setI M 130 (8 * nc + 3) (sp_I M 103 23)
  let M3 := sp_setI M2 130 (8 * nc + 4) (sp_I M2 103 23)
  have f3 : sp_fr [130] [] M M3 := (sp_fr_I (Or.inl (by decide)) rfl).tr (sp_fr_I (Or.inl (by decide)) rfl)
  obtain ⟨M', e1, e2, e3⟩ := j165_bad (F := F) hnc (BD_fr f3 (by decide) (show BD M q n g from ⟨h.1, h.2.1, Or.inl ⟨h.2.2.1, h.2.2.2⟩⟩))
  refine ⟨M', ?_, (f3.mono (by decide) (by decide)).tr e2, e3⟩
  unfold fX11_readOrder_j158 fX11_readSum fX11_readSum_j22
  rw [show sp_ix 96 (nI (8 * nc) + 3) = some (8 * nc + 3) from ix8 (d := 3) hnc (by omega), Option.bind_some]
  simp only [sp_do]
  rw [if_neg (show ¬ sp_I (sp_setI M 130 (8 * nc + 3) (sp_I M 103 23)) 103 19 = 0 by rw [I_ne _ _ _ (by decide), h.2.2.1]; decide), show nI (8 * nc) + 3 + 1 = nI (8 * nc) + nI 4 by rw [show nI (8 * nc) + 3 = nI (8 * nc + 3) from nI_add _ 3, nI_1, nI_add], ix8 hnc (show 4 < 8 by omega), Option.bind_some, Option.bind_some]
  exact e1
theorem j125_bad {g : Nat} {a1 : Int32} (hnc : nc < 12) (h : BD M q n g) : ∃ M', fX11_readOrder_j125 F a1 (nI (8 * nc)) M = some M' ∧ tfr M M' ∧ BD M' q n g := by
  unfold fX11_readOrder_j125
  by_cases h2 : (2 : Int32) ≤ a1
  · rw [if_pos h2]
    exact j165_bad hnc h
  · rw [if_neg h2]
    obtain ⟨b1, b2, b3⟩ := h
    rcases b3 with ⟨a, b⟩ | ⟨a, b, c⟩
    · rw [if_neg (show ¬ sp_I M 103 19 = 0 by rw [a]; decide)]
      exact j158_bad hnc ⟨b1, b2, a, b⟩
    · rw [if_pos a]
      obtain ⟨M1, e1, e2, e3, e4, e5, e6⟩ := mf_r (F := F) b1 b a b2
      obtain ⟨M', s1, s2, s3⟩ := j158_bad (F := F) hnc ⟨e3, e4, e5, e6⟩
      have j : ∀ s, wdx q n g [s] ≠ some 0 → fX11_readOrder_j152 F (nI (8 * nc)) s M = some M' := by
        intro s hs
        unfold fX11_readOrder_j152
        rw [(isw_1 b1 b).2 hs, e1, Option.bind_some, s1]
      refine ⟨M', ?_, (e2.mono (by decide) (by decide)).tr s2, s3⟩
      by_cases z : a1 = 0
      · rw [if_pos z]; exact j _ (sg_w c _)
      · rw [if_neg z]; exact j _ (sg_w c _)
theorem order_r {cl : List GC} (hF : 2000 ≤ F) (h12 : cl.length < 12) (h : RR M q n f true len lv cl.length) (hP : pOW M len cl) : StR q n true (fX11_readOrder F) (ordR q n f lv) pOW M cl := by
  obtain ⟨hT, hK, h23, h21, h26, h20, h19, hC, hlv, hnc0, hl⟩ := h
  have hR : RR M q n f true len lv cl.length := ⟨hT, hK, h23, h21, h26, h20, h19, hC, hlv, hnc0, hl⟩
  have n12 : ¬ (12 : Int32) ≤ sp_I M 103 21 := by rw [h21]; exact nI_ge (b := 12) (by omega) (by omega)
  have hl400 : len ≤ 400 := by
    have := hK.1
    have := hT.1
    omega
  unfold ordR
  cases hx : wdx q n f cs_2 with
  | none =>
    refine ⟨fun g e => ?_, fun g lv' c e => (by cases e)⟩
    cases e
    obtain ⟨M', e1, e2, e3, e4, e5, e6⟩ := mf_r (F := F) hT hK h19 hC.1
    refine ⟨M', ?_, e2.mono (by decide) (by decide), e3, e4, Or.inl ⟨e5, e6⟩⟩
    unfold fX11_readOrder
    rw [overb_r (by omega) hT hK hC.1, vp_e.2 hx]
    show (if (-1 : Int32) = -1 then _ else _) = _
    rw [if_pos rfl]
    unfold fX11_readOrder_j53 fX11_readOrder_j54
    rw [e1, Option.bind_some, if_neg (show ¬ sp_I M' 103 19 = 0 by rw [e5]; decide)]
  | some j =>
    have hj : j < 4 := wdx_lt hx
    have hv4 : vp j < 4 := by unfold vp; split <;> (try split) <;> omega
    have hg := nxt_gt hK.1 (show tkS q n f ≠ 0 by rw [wdx_S hx]; decide)
    obtain ⟨M1, e1, e2, e3⟩ := RR_next (F := F) (by omega) hR
    have e130 : sp_I M1 130 = sp_I M 130 := fr_A (SA := [130]) (SB := []) e2 (by decide) 130 (by decide)
    have e21 := e3.2.2.2.1
    let M1b := sp_setI M1 103 21 (nI (cl.length + 1))
    obtain ⟨M2, z1, z2, z3, z4⟩ := zl_130 (F := F) (a := 8 * cl.length) (a1 := nI (vp j)) (kx := fun b16 b17 M15 => (sp_ix 96 b17).bind fun j18 => sp_do (sp_setI M15 130 j18 b16) fun M19 => if b16 = 3 then (fX11_readOrder_j125 F b16 b17 M19) else ((fX11_readSum F M19 (b17 + 1)).bind fun M42 => fX11_readOrder_j125 F b16 b17 M42)) (by omega) 8 0 F M1b (by omega) (by omega)
    let M5 := sp_setI M2 130 (8 * cl.length) (nI (vp j))
    have f5 : sp_fr [130] [(103, 21)] M1 M5 := ((sp_fr_I (Or.inr (by decide)) rfl : sp_fr [130] [(103, 21)] M1 M1b).tr (z2.mono (by decide) (by decide))).tr (sp_fr_I (Or.inl (by decide)) rfl)
    have R5 : RR M5 q n (nxt q n f) true len lv (cl.length + 1) := by
      obtain ⟨d1, d2, d3, d4, d5, d6, d7, d8, d9, d10, d11⟩ := e3
      exact ⟨TXR_fr f5 d1 (by decide), TKR_fr f5 d2 (by decide), (f5.1 103 23 (by decide) (by decide)).trans d3, by rw [I_ne _ _ _ (by decide), z2.1 103 21 (by decide) (by decide)]; exact I_eq _ _ _ _, (f5.1 103 26 (by decide) (by decide)).trans d5, (f5.1 103 20 (by decide) (by decide)).trans d6, (f5.1 103 19 (by decide) (by decide)).trans d7, i8_fr f5 (by decide) d8, d9, by omega, d11⟩
    have h0 : sp_I M5 130 (8 * cl.length) = nI (vp j) := I_eq _ _ _ _
    have hz : ∀ i, 8 * cl.length < i → i < 8 * cl.length + 8 → sp_I M5 130 i = 0 := fun i h1 h2 => by rw [I_nf _ _ _ (by omega), z4 i (by omega) h2]
    have hlo : ∀ i, i < 8 * cl.length → sp_I M5 130 i = sp_I M 130 i := fun i hi => by rw [I_nf _ _ _ (by omega), z3 i (by omega), I_ne _ _ _ (by decide), e130]
    have rc5 : rcM M5 1 len = rcM M 1 len := (rcM_fr f5 (by decide)).trans (rcM_fr e2 (by decide))
    have t5 : tfr M M5 := (e2.mono (by decide) (by decide)).tr (f5.mono (by decide) (by decide))
    have pre : fX11_readOrder F M = (if nI (vp j) = 3 then (fX11_readOrder_j125 F (nI (vp j)) (nI (8 * cl.length)) M5) else ((fX11_readSum F M5 (nI (8 * cl.length) + 1)).bind fun M42 => fX11_readOrder_j125 F (nI (vp j)) (nI (8 * cl.length)) M42)) := by
      unfold fX11_readOrder
      rw [overb_r (by omega) hT hK hC.1, vp_e.1 j hx]
      show (if nI (vp j + 0) = -1 then _ else _) = _
      rw [Nat.add_zero, if_neg (nI_m1 (by omega))]
      unfold fX11_readOrder_j54
      rw [if_neg n12, must_1 h19 (by decide) e1, Option.bind_some, if_pos e3.2.2.2.2.2.2.1]
      simp only [sp_do] at z1 ⊢
      rw [e21, show (8 : Int32) * nI cl.length = nI (8 * cl.length) from nI_mul 8 _, nI_1]
      refine Eq.trans z1 ?_
      rw [sp_ix_nI (show 8 * cl.length < 96 by omega) (by omega), Option.bind_some]
    -- from the times on
    have fin : ∀ (M6 : sp_Mem) (f6 len6 lv6 : Nat) (o1 o2 : Option ev_S), tfr M M6 → RR M6 q n f6 true len6 lv6 (cl.length + 1) → (∀ i, i < len → rcM M6 1 len6 i = rcM M 1 len i) → len ≤ len6 → (∀ i, i ≤ 8 * cl.length → sp_I M6 130 i = sp_I M5 130 i) → ev_RO 1 16 (sp_I M6 114) (sp_I M6 115) len6 (sp_I M6 130 (8 * cl.length + 1)) (sp_I M6 130 (8 * cl.length + 2)) o1 → ev_RO 1 16 (sp_I M6 114) (sp_I M6 115) len6 (sp_I M6 130 (8 * cl.length + 3)) (sp_I M6 130 (8 * cl.length + 4)) o2 → fX11_readOrder F M = fX11_readOrder_j165 F (nI (8 * cl.length)) M6 → StR q n true (fX11_readOrder F) (tmR q n f6 lv6 (j, o1, o2, 1, none)) pOW M cl := by
      intro M6 f6 len6 lv6 o1 o2 t6 R6 c6 l6 H6 ro1 ro2 he
      have L := otm_r (c := (j, o1, o2, 1, none)) hF h12 R6 rfl rfl
      refine ⟨fun g e => ?_, fun g lv' c e => ?_⟩
      · obtain ⟨M', s1, s2, s3⟩ := L.1 g e
        exact ⟨M', he.trans s1, t6.tr s2, s3⟩
      · obtain ⟨M', len', s1, s2, s3, s4, s5, s6, s7, s8, p1, p2, p3⟩ := L.2 g lv' c e
        refine ⟨M', len', he.trans s1, t6.tr s2, s3, ?_⟩
        have C0 : ROW (sp_I M' 130) (sp_I M' 114) (sp_I M' 115) len' cl := ROW_up (by omega) (fun i hi => (s4 i (by omega)).trans (c6 i hi)) (fun i hi => by rw [s6 i (by omega), H6 i (by omega), hlo i hi]) hP
        refine ROW_snoc C0 ?_ ?_ ?_ s7 s8
        · rw [s6 _ (by omega), H6 _ (by omega), h0, p1]
        · rw [s6 _ (by omega), s6 _ (by omega), p2]
          exact RO_up s5 s4 ro1
        · rw [s6 _ (by omega), s6 _ (by omega), p3]
          exact RO_up s5 s4 ro2
    have zro : ∀ (X : sp_Mem) (L : Nat) (a b : Int32), a = 0 → b = 0 → ev_RO 1 16 (sp_I X 114) (sp_I X 115) L a b none := fun X L a b ha hb => ⟨0, by omega, ha, hb⟩
    dsimp only
    by_cases h3 : j = 3
    · subst h3
      rw [if_pos rfl]
      refine fin M5 (nxt q n f) len lv none none t5 R5 (fun i hi => congrFun rc5 i) (Nat.le_refl _) (fun i _ => rfl) (zro _ _ _ _ (hz _ (by omega) (by omega)) (hz _ (by omega) (by omega))) (zro _ _ _ _ (hz _ (by omega) (by omega)) (hz _ (by omega) (by omega))) ?_
      rw [pre, if_pos (show nI (vp 3) = 3 from rfl)]
      unfold fX11_readOrder_j125
      rw [if_pos (by decide)]
    · rw [if_neg h3]
      have nv3 : ¬ nI (vp j) = 3 := fun w => by
        have := (nIe (b := 3) (by omega) (by omega)).1 w
        unfold vp at this
        by_cases z1 : j = 1
        · rw [if_pos z1] at this; omega
        · rw [if_neg z1] at this
          by_cases z2 : j = 2
          · rw [if_pos z2] at this; omega
          · rw [if_neg z2] at this; omega
      rw [if_neg nv3] at pre
      have V := rs_r (d := 1) hF h12 (Or.inl rfl) R5
      cases hr : xr q n true 20 (nxt q n f) lv with
      | inl g1 =>
        refine ⟨fun g e => ?_, fun g lv' c e => (by cases e)⟩
        cases e
        obtain ⟨M6, s1, s2, s3⟩ := V.1 g1 hr
        obtain ⟨M7, t1, t2, t3⟩ := j125_bad (F := F) (a1 := nI (vp j)) h12 s3
        exact ⟨M7, by rw [pre, show fX11_readSum F M5 (nI (8 * cl.length) + 1) = some M6 from s1, Option.bind_some, t1], (t5.tr s2).tr t2, t3⟩
      | inr y =>
        obtain ⟨g1, lv1, v1⟩ := y
        obtain ⟨M6, len6, s1, s2, s3, s4, s5, s6, s7⟩ := V.2 g1 lv1 v1 hr
        have pre2 : fX11_readOrder F M = fX11_readOrder_j125 F (nI (vp j)) (nI (8 * cl.length)) M6 := by
          rw [pre, show fX11_readSum F M5 (nI (8 * cl.length) + 1) = some M6 from s1, Option.bind_some]
        have c6 : ∀ i, i < len → rcM M6 1 len6 i = rcM M 1 len i := fun i hi => (s4 i hi).trans (congrFun rc5 i)
        have z34 : sp_I M6 130 (8 * cl.length + 3) = 0 ∧ sp_I M6 130 (8 * cl.length + 4) = 0 := ⟨by rw [s6 _ (by omega) (by omega)]; exact hz _ (by omega) (by omega), by rw [s6 _ (by omega) (by omega)]; exact hz _ (by omega) (by omega)⟩
        dsimp only
        by_cases h1 : j = 1
        · subst h1
          rw [if_pos rfl]
          refine fin M6 g1 len6 lv1 (some v1) none (t5.tr s2) s3 c6 s5 (fun i hi => s6 i (by omega) (by omega)) s7 (zro _ _ _ _ z34.1 z34.2) ?_
          rw [pre2]
          unfold fX11_readOrder_j125
          rw [if_pos (by decide)]
        · rw [if_neg h1]
          have j02 : j = 0 ∨ j = 2 := by omega
          have two : ∀ s : Int64, fX11_readOrder_j125 F (nI (vp j)) (nI (8 * cl.length)) M6 = fX11_readOrder_j152 F (nI (8 * cl.length)) s M6 → StR q n true (fX11_readOrder F) (if wdx q n g1 [s] = some 0 then (match xr q n true 20 (nxt q n g1) lv1 with
              | .inl g2 => .inl g2
              | .inr (g2, lv2, w) => tmR q n g2 lv2 (j, some v1, some w, 1, none)) else .inl g1) pOW M cl := by
            intro s he
            have W := isw_1 (a := s) s3.1 s3.2.1
            have w01 : fX11_isWord M6 s = 0 ∨ fX11_isWord M6 s = 1 := by
              unfold fX11_isWord
              split
              · split
                · exact Or.inr rfl
                · exact Or.inl rfl
              · exact Or.inl rfl
            by_cases hx2 : wdx q n g1 [s] = some 0
            · rw [if_pos hx2]
              obtain ⟨M7, a1, a2, a3⟩ := RR_next (F := F) (by omega) s3
              have pre3 : fX11_readOrder F M = fX11_readOrder_j158 F (nI (8 * cl.length)) M7 := by
                rw [pre2, he]
                unfold fX11_readOrder_j152
                rw [must_1 s3.2.2.2.2.2.2.1 (W.1 hx2) a1, Option.bind_some]
              have e7 : sp_I M7 130 = sp_I M6 130 := fr_A (SA := [130]) (SB := []) a2 (by decide) 130 (by decide)
              have rc7 : rcM M7 1 len6 = rcM M6 1 len6 := rcM_fr a2 (by decide)
              have V2 := rs_r (d := 3) hF h12 (Or.inr rfl) a3
              have t7 : tfr M M7 := (t5.tr s2).tr (a2.mono (by decide) (by decide))
              cases hr2 : xr q n true 20 (nxt q n g1) lv1 with
              | inl g2 =>
                refine ⟨fun g e => ?_, fun g lv' c e => (by cases e)⟩
                cases e
                obtain ⟨M8, u1, u2, u3⟩ := V2.1 g2 hr2
                obtain ⟨M9, w1, w2, w3⟩ := j165_bad (F := F) h12 u3
                refine ⟨M9, ?_, (t7.tr u2).tr w2, w3⟩
                rw [pre3]
                unfold fX11_readOrder_j158
                rw [show fX11_readSum F M7 (nI (8 * cl.length) + 3) = some M8 from u1, Option.bind_some, w1]
              | inr y2 =>
                obtain ⟨g2, lv2, w2⟩ := y2
                obtain ⟨M8, len8, u1, u2, u3, u4, u5, u6, u7⟩ := V2.2 g2 lv2 w2 hr2
                refine fin M8 g2 len8 lv2 (some v1) (some w2) (t7.tr u2) u3 (fun i hi => ((u4 i (by omega)).trans (congrFun rc7 i)).trans (c6 i hi)) (by omega) (fun i hi => by rw [u6 i (by omega) (by omega), e7, s6 i (by omega) (by omega)]) ?_ u7 ?_
                · rw [u6 _ (by omega) (by omega), u6 _ (by omega) (by omega), e7]
                  exact RO_up u5 (fun i hi => (u4 i hi).trans (congrFun rc7 i)) s7
                · rw [pre3]
                  unfold fX11_readOrder_j158
                  rw [show fX11_readSum F M7 (nI (8 * cl.length) + 3) = some M8 from u1, Option.bind_some]
            · rw [if_neg hx2]
              refine ⟨fun g e => ?_, fun g lv' c e => (by cases e)⟩
              cases e
              obtain ⟨M7, a1, a2, a3, a4, a5, a6⟩ := mf_r (F := F) s3.1 s3.2.1 s3.2.2.2.2.2.2.1 s3.2.2.2.2.2.2.2.1.1
              obtain ⟨M8, w1, w2, w3⟩ := j158_bad (F := F) h12 ⟨a3, a4, a5, a6⟩
              refine ⟨M8, ?_, ((t5.tr s2).tr (a2.mono (by decide) (by decide))).tr w2, w3⟩
              rw [pre2, he]
              unfold fX11_readOrder_j152
              rw [W.2 hx2, a1, Option.bind_some, w1]
          rcases j02 with e | e
          · subst e
            refine two 89 ?_
            unfold fX11_readOrder_j125
            rw [if_neg (by decide), if_pos s3.2.2.2.2.2.2.1, if_pos (by decide)]
          · subst e
            refine two 655 ?_
            unfold fX11_readOrder_j125
            rw [if_neg (by decide), if_pos s3.2.2.2.2.2.2.1, if_neg (by decide)]
end ROrd
