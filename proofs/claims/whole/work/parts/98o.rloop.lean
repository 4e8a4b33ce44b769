/-! ===== texts: where the reference's text ends ===== -/
def BE (M : sp_Mem) (q : Nat → Nat) (n g : Nat) : Prop := TXR M q n ∧ i_C M ∧ ((sp_I M 103 19 = 1 ∧ sp_I M 103 18 = nI g) ∨ (sp_I M 103 19 = 0 ∧ TKR M q n g ∧ tkS q n g ≠ 0))
theorem BE_of {M : sp_Mem} {q : Nat → Nat} {n g : Nat} (h : BD M q n g) : BE M q n g := ⟨h.1, h.2.1, h.2.2.imp id (fun w => ⟨w.1, w.2.1, by rw [(sg_S w.2.2).1]; decide⟩)⟩
abbrev efr (M M' : sp_Mem) : Prop := sp_fr [] [(103, 13), (103, 18), (103, 19), (103, 20)] M M'
theorem endT_f {F n g : Nat} {q : Nat → Nat} {M : sp_Mem} (h : BE M q n g) : ∃ M', fX11_endText F M = some M' ∧ efr M M' ∧ sp_I M' 103 19 = 1 ∧ sp_I M' 103 18 = nI g ∧ sp_I M' 103 20 = 0 ∧ sp_I M' 103 13 = 0 := by
  obtain ⟨h1, h2, h3⟩ := h
  unfold fX11_endText
  rcases h3 with ⟨a, b⟩ | ⟨a, b, c⟩
  · have f2 : efr M (sp_setI (sp_setI M 103 20 0) 103 13 0) := (sp_fr_I (Or.inr (by decide)) rfl).tr (sp_fr_I (Or.inr (by decide)) rfl)
    refine ⟨sp_setI (sp_setI M 103 20 0) 103 13 0, ?_, f2, ?_, ?_, ?_, I_eq _ _ _ _⟩
    · rw [if_neg (show ¬ sp_I M 103 19 = 0 by rw [a]; decide)]
      rfl
    · rw [I_nf _ _ _ (by decide), I_nf _ _ _ (by decide)]; exact a
    · rw [I_nf _ _ _ (by decide), I_nf _ _ _ (by decide)]; exact b
    · rw [I_nf _ _ _ (by decide)]; exact I_eq _ _ _ _
  · obtain ⟨M1, e1, e2, e3, e4, e5, e6⟩ := mf_r (F := F) h1 b a h2
    have f2 : efr M1 (sp_setI (sp_setI M1 103 20 0) 103 13 0) := (sp_fr_I (Or.inr (by decide)) rfl).tr (sp_fr_I (Or.inr (by decide)) rfl)
    have h4 := tkS4 (f := g) (fun i hi => (h1.2.2 i hi).2)
    refine ⟨sp_setI (sp_setI M1 103 20 0) 103 13 0, ?_, (e2.mono (by decide) (by decide)).tr f2, ?_, ?_, ?_, I_eq _ _ _ _⟩
    · rw [if_pos a, b.2.2.2.1, if_neg (show ¬ nI (tkS q n g) = 0 from fun w => c ((nIe (b := 0) (by omega) (by omega)).1 w)), e1, Option.bind_some]
      rfl
    · rw [I_nf _ _ _ (by decide), I_nf _ _ _ (by decide)]; exact e5
    · rw [I_nf _ _ _ (by decide), I_nf _ _ _ (by decide)]; exact e6
    · rw [I_nf _ _ _ (by decide)]; exact I_eq _ _ _ _
theorem endT_g {F n f len lv nc : Nat} {q : Nat → Nat} {ord : Bool} {M : sp_Mem} (h : RR M q n f ord len lv nc) (h0 : tkS q n f = 0) : fX11_endText F M = some (sp_setI (sp_setI M 103 20 0) 103 13 0) := by
  unfold fX11_endText
  rw [if_pos h.2.2.2.2.2.2.1, h.2.1.2.2.2.1, h0, if_pos (show nI 0 = 0 from rfl)]
  rfl
/-- the beginning of a text -/
theorem begT {F n : Nat} {q : Nat → Nat} {ord : Bool} {M : sp_Mem} (hF : 1000 ≤ F) (hT : TXR M q n) (hC : i_C M) : ∃ M', fX11_beginText F M (bI ord) = some M' ∧ sp_fr [] [(103, 14), (103, 15), (103, 16), (103, 17), (103, 18), (103, 19), (103, 20), (103, 21), (103, 23), (103, 26)] M M' ∧ RR M' q n (tkF q n 0) ord 0 0 0 ∧ sp_I M' 103 18 = -1 := by
  let M1 := sp_setI M 103 20 (bI ord)
  let M2 := sp_setI (sp_setI (sp_setI M1 103 15 0) 103 19 0) 103 18 (-1)
  have f2 : sp_fr [] [(103, 15), (103, 18), (103, 19), (103, 20)] M M2 := (((sp_fr_I (Or.inr (by decide)) rfl).tr (sp_fr_I (Or.inr (by decide)) rfl)).tr (sp_fr_I (Or.inr (by decide)) rfl)).tr (sp_fr_I (Or.inr (by decide)) rfl)
  obtain ⟨M3, e1, e2, e3, e4⟩ := next_r hF (TXR_fr f2 hT (by decide)) (Nat.zero_le n) (show sp_I M2 103 15 = nI 0 from (by rw [I_nf _ _ _ (by decide), I_nf _ _ _ (by decide)]; exact I_eq _ _ _ _))
  let M6 := sp_setI (sp_setI (sp_setI M3 103 21 0) 103 23 0) 103 26 0
  have f6 : sp_fr [] [(103, 21), (103, 23), (103, 26)] M3 M6 := ((sp_fr_I (Or.inr (by decide)) rfl).tr (sp_fr_I (Or.inr (by decide)) rfl)).tr (sp_fr_I (Or.inr (by decide)) rfl)
  refine ⟨M6, ?_, ((f2.mono (by decide) (by decide)).tr (e2.mono (by decide) (by decide))).tr (f6.mono (by decide) (by decide)), ⟨TXR_fr f6 e3 (by decide), TKR_fr f6 e4 (by decide), ?_, ?_, I_eq _ _ _ _, ?_, ?_, ?_, by omega, by omega, Nat.zero_le _⟩, ?_⟩
  · unfold fX11_beginText fX11_begin
    simp only [sp_do]
    rw [show sp_b01 (bI ord) = some () by cases ord <;> rfl, Option.bind_some, show fX11_next F (sp_setI (sp_setI (sp_setI (sp_setI M 103 20 (bI ord)) 103 15 0) 103 19 0) 103 18 (-1)) = some M3 from e1, Option.bind_some, Option.bind_some]
  · rw [I_nf _ _ _ (by decide)]; exact I_eq _ _ _ _
  · rw [I_nf _ _ _ (by decide), I_nf _ _ _ (by decide)]; exact I_eq _ _ _ _
  · rw [f6.1 103 20 (by decide) (by decide), e2.1 103 20 (by decide) (by decide), I_nf _ _ _ (by decide), I_nf _ _ _ (by decide), I_nf _ _ _ (by decide)]; exact I_eq _ _ _ _
  · rw [f6.1 103 19 (by decide) (by decide), e2.1 103 19 (by decide) (by decide), I_nf _ _ _ (by decide)]; exact I_eq _ _ _ _
  · refine ⟨i_C_fr f6 (by decide) (i_C_fr e2 (by decide) (i_C_fr f2 (by decide) hC)), ?_⟩
    rw [f6.1 103 18 (by decide) (by decide), e2.1 103 18 (by decide) (by decide)]; exact I_eq _ _ _ _
  · rw [f6.1 103 18 (by decide) (by decide), e2.1 103 18 (by decide) (by decide)]; exact I_eq _ _ _ _
theorem pLW_fr {M M' : sp_Mem} {A : List Nat} {B : List (Nat × Nat)} {len : Nat} {cl : List GC} (hd : dj [113, 114, 115] [] A B = true) (hf : sp_fr A B M M') (h : pLW M len cl) : pLW M' len cl := by
  unfold pLW
  rw [fr_A hf hd 113 (by decide), fr_A hf hd 114 (by decide), fr_A hf hd 115 (by decide)]
  exact h

theorem stop_law {F n g kf : Nat} {q : Nat → Nat} {M : sp_Mem} {kx : sp_Mem → Option (Int32 × sp_Mem)} (h : BD M q n g) : fX11_law_l37 F kx (kf + 1) M = kx M := by
  obtain ⟨h1, h2, h3⟩ := h
  rw [fX11_law_l37]
  rcases h3 with ⟨a, b⟩ | ⟨a, b, c⟩
  · rw [if_neg (show ¬ sp_I M 103 19 = 0 by rw [a]; decide)]
  · rw [if_pos a, show fX11_isSign M 59 = bI (sg q n g 59) from sgb_r h1 b (b := 59) (by omega), sg_ne c (show 41 ≠ 59 by decide), if_pos (show bI false = 0 from rfl)]

/-! ===== texts: the reference's loop over clauses (laws) ===== -/
theorem full_law {F n f len lv : Nat} {q : Nat → Nat} {M : sp_Mem} (hF : 2000 ≤ F) (h : RR M q n f false len lv 12) : ∃ M', fX11_readLaw F M = some M' ∧ tfr M M' ∧ BD M' q n f := by
  obtain ⟨hT, hK, h23, h21, h26, h20, h19, hC, hlv, hnc0, hl⟩ := h
  obtain ⟨M', e1, e2, e3, e4, e5, e6⟩ := mf_r (F := F) hT hK h19 hC.1
  refine ⟨M', ?_, e2.mono (by decide) (by decide), e3, e4, Or.inl ⟨e5, e6⟩⟩
  have j54 : ∀ a, fX11_readLaw_j54 F a 0 M = some M' := by
    intro a
    unfold fX11_readLaw_j54
    rw [e1, Option.bind_some, if_neg (show ¬ sp_I M' 103 19 = 0 by rw [e5]; decide)]
  unfold fX11_readLaw
  rw [verb_r (by omega) hT hK hC.1]
  split
  · exact j54 _
  · rw [h21, if_pos (show (12 : Int32) ≤ nI 12 by decide)]
    exact j54 _
theorem loop_law {F n : Nat} {q : Nat → Nat} {kx : sp_Mem → Option (Int32 × sp_Mem)} (hF : 2000 ≤ F) : ∀ (c kf : Nat) (M : sp_Mem) (f len lv : Nat) (cl : List GC), c + cl.length = 12 → c < kf → RR M q n f false len lv cl.length → pLW M len cl →
  (∀ g, gT q n (lawR q n) c f lv cl = .inl g → ∃ M', ((fX11_readLaw F M).bind fun M1 => fX11_law_l37 F kx kf M1) = kx M' ∧ tfr M M' ∧ BE M' q n g) ∧
  (∀ cl', gT q n (lawR q n) c f lv cl = .inr cl' → ∃ M' len' f' lv', ((fX11_readLaw F M).bind fun M1 => fX11_law_l37 F kx kf M1) = kx M' ∧ tfr M M' ∧ RR M' q n f' false len' lv' cl'.length ∧ pLW M' len' cl' ∧ tkS q n f' = 0)
  | 0, kf, M, f, len, lv, cl, hc, hk, h, hP => by
    obtain ⟨kf, rfl⟩ : ∃ m, kf = m + 1 := ⟨kf - 1, by omega⟩
    refine ⟨fun g e => ?_, fun cl' e => (by cases e)⟩
    cases e
    rw [show cl.length = 12 by omega] at h
    obtain ⟨M', e1, e2, e3⟩ := full_law hF h
    refine ⟨M', ?_, e2, BE_of e3⟩
    rw [e1, Option.bind_some]
    exact stop_law e3
  | c + 1, kf, M, f, len, lv, cl, hc, hk, h, hP => by
    obtain ⟨kf, rfl⟩ : ∃ m, kf = m + 1 := ⟨kf - 1, by omega⟩
    have S := law_r hF (by omega) h hP
    rw [gT]
    cases hr : lawR q n f lv with
    | inl g1 =>
      refine ⟨fun g e => ?_, fun cl' e => (by cases e)⟩
      cases e
      obtain ⟨M', e1, e2, e3⟩ := S.1 g1 hr
      refine ⟨M', ?_, e2, BE_of e3⟩
      rw [e1, Option.bind_some]
      exact stop_law e3
    | inr y =>
      obtain ⟨g1, lv1, x⟩ := y
      obtain ⟨M1, len1, e1, e2, e3, e4⟩ := S.2 g1 lv1 x hr
      have hlen1 : (cl ++ [x]).length = cl.length + 1 := by rw [List.length_append, List.length_singleton]
      have hT1 := e3.1
      have hK1 := e3.2.1
      have h19 := e3.2.2.2.2.2.2.1
      have s59 : fX11_isSign M1 59 = bI (sg q n g1 59) := sgb_r hT1 hK1 (b := 59) (by omega)
      rw [e1, Option.bind_some, fX11_law_l37, if_pos h19, s59]
      dsimp only
      by_cases h0 : tkS q n g1 = 0
      · have n59 : sg q n g1 59 = false := Bool.eq_false_iff.2 fun z => by rw [(sg_S z).1] at h0; cases h0
        rw [if_pos h0, n59, if_pos (show bI false = 0 from rfl)]
        refine ⟨fun g e => (by cases e), fun cl' e => ?_⟩
        cases e
        exact ⟨M1, len1, g1, lv1, rfl, e2, by rw [hlen1]; exact e3, e4, h0⟩
      · rw [if_neg h0]
        by_cases h59 : sg q n g1 59 = true
        · rw [if_pos h59, h59, if_neg (show ¬ bI true = 0 by decide)]
          obtain ⟨M2, r1, r2, r3⟩ := RR_next (F := F) (by omega) e3
          rw [r1, Option.bind_some]
          have ih := loop_law (kx := kx) hF c kf M2 (nxt q n g1) len1 lv1 (cl ++ [x]) (by omega) (by omega) (by rw [hlen1]; exact r3) (pLW_fr (by decide) r2 e4)
          have f2 : tfr M M2 := e2.tr (r2.mono (by decide) (by decide))
          refine ⟨fun g e => ?_, fun cl' e => ?_⟩
          · obtain ⟨M', s1, s2, s3⟩ := ih.1 g e
            exact ⟨M', s1, f2.tr s2, s3⟩
          · obtain ⟨M', len', f', lv', s1, s2, s3⟩ := ih.2 cl' e
            exact ⟨M', len', f', lv', s1, f2.tr s2, s3⟩
        · rw [if_neg h59, Bool.eq_false_iff.2 h59, if_pos (show bI false = 0 from rfl)]
          refine ⟨fun g e => ?_, fun cl' e => (by cases e)⟩
          cases e
          exact ⟨M1, rfl, e2, hT1, e3.2.2.2.2.2.2.2.1.1, Or.inr ⟨h19, hK1, h0⟩⟩

