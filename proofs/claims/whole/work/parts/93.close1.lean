/-! ===== expressions: the class closes a bracket ===== -/
theorem WFk_tl {base br k : Nat} {g : ev_S} : ∀ {A : Sk}, WFk base ((k, g) :: A) br → k = 22 ∨ k = 23 → base = 20 ∨ base = 21 → 1 ≤ br ∧ WFk base A (br - 1) ∧ okP k (tpk A)
  | [], h, hk, hb => by
    have : k = base := h.1
    omega
  | y :: A, h, hk, hb => by
    rcases h.2 with ⟨w, _⟩ | ⟨_, w, w2⟩
    · have w : 3 ≤ k ∧ k ≤ 13 := w
      omega
    · exact ⟨w, w2, h.1⟩
theorem WFk_b {base br : Nat} : ∀ {A : Sk}, WFk base A br → tpk A = 20 ∨ tpk A = 21 → ∃ x, A = [x]
  | [], h, _ => h.elim
  | [x], _, _ => ⟨x, rfl⟩
  | x :: y :: A, h, hk => by
    have hk : x.1 = 20 ∨ x.1 = 21 := hk
    rcases h.2 with ⟨w, _⟩ | ⟨w, _⟩
    · omega
    · omega
theorem b0 {base : Nat} (h : base = 20 ∨ base = 21) : bnd base = 0 := by
  rcases h with rfl | rfl <;> rfl
section Clo1
variable {p0 : PP} {F n f nw t lv br base : Nat} {q : Nat → Nat} {ord td : Bool} {M : sp_Mem} {A : Sk} {v : ev_S}
/-- the bracket goes from the pile -/
theorem pop_x {kk a p len m : Nat} {g : ev_S} {A0 : List (Nat × ev_S × Nat)} (hF : 1000 ≤ F) (h : XC M q n f ord nw p0 ((kk, g, a) :: A0) p len m lv br) (hk : kk = 22 ∨ kk = 23) (hbr : 1 ≤ br) (hbr8 : br ≤ 8) : ∃ M', fX2_closes_j66 F (bI td) (nI kk) (nI kk) M = some (1, M') ∧ sp_fr [] [(96, 4), (96, 5), (96, 8), (94, 2), (94, 3), (94, 4)] M M' ∧ XC M' q n (nxt q n f) ord nw p0 A0 p len m lv (br - 1) ∧ sp_I M' 96 8 = bI td := by
  obtain ⟨hT, hK, hP, h6, h5, h7, hbu⟩ := h
  rw [List.length_cons] at hbu
  have hg := (tkT_b (q := q) hK.1)
  have hg2 := tkF_b (q := q) hg.2
  let M1 := sp_setI M 96 4 (nI A0.length)
  let M2 := sp_setI M1 96 5 (nI (br - 1))
  let M3 := sp_setI M2 96 8 (bI td)
  have f3 : sp_fr [] [(96, 4), (96, 5), (96, 8)] M M3 := ((sp_fr_I (Or.inr (by decide)) rfl).tr (sp_fr_I (Or.inr (by decide)) rfl)).tr (sp_fr_I (Or.inr (by decide)) rfl)
  have e4 : sp_I M 96 4 = nI (A0.length + 1) := hP.2.2.2.1
  have P3 : PSC M3 nw p0 A0 p len m := by
    obtain ⟨g1, g2, g3, g4, g5, g6, g7⟩ := hP
    rw [List.length_cons] at g5
    refine ⟨g1, (f3.1 97 3 (by decide) (by decide)).trans g2, g3, ?_, by omega, SKC_cg (fr_A (SA := [100]) (SB := []) f3 (by decide) 100 (by decide)) (fr_A (SA := [101]) (SB := []) f3 (by decide) 101 (by decide)) A0 g6.2.2.2, ?_⟩
    · rw [I_nf _ _ _ (by decide), I_nf _ _ _ (by decide)]; exact I_eq _ _ _ _
    · unfold Lay at g7
      rw [if_neg (by omega), if_neg (by omega)] at g7
      rw [fr_A (SA := [99]) (SB := []) f3 (by decide) 99 (by decide)]
      exact g7
  obtain ⟨M', r1, r2, r3⟩ := XC_next (F := F) (lv := lv) (br := br - 1) (ord := ord) hF (TXC_fr f3 hT (by decide)) (q := q) (f := f) ⟨hK.1, (f3.1 94 3 (by decide) (by decide)).trans hK.2.1, (f3.1 94 4 (by decide) (by decide)).trans hK.2.2.1, (f3.1 94 2 (by decide) (by decide)).trans hK.2.2.2⟩ P3 ((f3.1 96 6 (by decide) (by decide)).trans h6) ((I_nf _ _ _ (by decide)).trans (I_eq _ _ _ _)) ((f3.1 96 7 (by decide) (by decide)).trans h7) (by unfold nxt; omega)
  refine ⟨M', ?_, (f3.mono (by decide) (by decide)).tr (r2.mono (by decide) (by decide)), r3, (r2.1 96 8 (by decide) (by decide)).trans (I_eq _ _ _ _)⟩
  unfold fX2_closes_j66
  rw [if_pos rfl]
  simp only [sp_do]
  rw [e4, show nI (A0.length + 1) - 1 = nI A0.length from nI_sub (a := A0.length + 1) (b := 1) (by omega) (by have := hP.2.2.2.2.1; rw [List.length_cons] at this; omega), show sp_I (sp_setI M 96 4 (nI A0.length)) 96 5 = nI br from (I_nf _ _ _ (by decide)).trans h5, show nI br - 1 = nI (br - 1) from nI_sub (b := 1) (by omega) (by omega), show sp_b01 (bI td) = some () by cases td <;> rfl, Option.bind_some, r1, Option.bind_some]
/-- a bracket closed, a test's or a sum's -/
theorem cl_c {b kk : Nat} (hF : 1000 ≤ F) (hB : base = 20 ∨ base = 21) (hbr : br ≤ 8) (h : BX M q n f ord nw p0 base A v td t lv br) {tq : Bool} (hb : nI b = (if bI tq = 0 then 5 else 1)) (hb1 : 1 ≤ b) (hb7 : b < 7) (hkk : nI kk = (if bI tq = 0 then 22 else 23)) (hk : kk = 22 ∨ kk = 23) (ho : Fok b A v) (htq : tq = true → kk = 23 ∧ ev_T (fo b A v).2) (htop : tpk (fo b A v).1 = kk) : ∃ M', fX2_closes_j38 F (bI tq) M = some (1, M') ∧ xfr M M' ∧ BX M' q n (nxt q n f) ord nw p0 base (fo b A v).1.tail (fo b A v).2 tq t lv (br - 1) := by
  obtain ⟨Ai, p, len, m, nn, rfl, hX, hS, ht, hw, hL, htd, h8⟩ := h
  obtain ⟨M1, Ai1, p1, len1, m1, n1, e1, e2, e3, e4, e5, e6, e7⟩ := fold_w (b := b) hF hb1 hb7 hX hS ho
  have W := fo_wf (b := b) hb1 (b0 hB) (drp Ai) br v hw
  have hne : drp Ai1 ≠ [] := by rw [e6]; exact wf_ne W.1
  have tp := top_w e3.2.2.1 hne
  rw [e6, htop] at tp
  cases Ai1 with
  | nil => exact (hne rfl).elim
  | cons x A0 =>
    obtain ⟨k, g, a⟩ := x
    have e6' : (k, g) :: drp A0 = (fo b (drp Ai) v).1 := e6
    rw [← e6'] at htop W
    have hkk2 : k = kk := htop
    subst hkk2
    have T := WFk_tl W.1 hk hB
    obtain ⟨M2, r1, r2, r3, r4⟩   := pop_x (td := tq) hF e3 hk T.1 hbr
    have e99 : sp_I M2 99 = sp_I M1 99 := fr_A (SA := [99]) (SB := []) r2 (by decide) 99 (by decide)
    refine ⟨M2, ?_, (e2.mono (by decide) (by decide)).tr (r2.mono (by decide) (by decide)), A0, p1, len1, m1, n1, ?_, r3, by rw [e99]; exact e4, by omega, ?_, ?_, ?_, r4⟩
    · unfold fX2_closes_j38 fX2_closes_j48
      rw [← hb, e1, Option.bind_some, tp.1, Option.bind_some, ← hkk]
      exact r1
    · rw [← e6']; rfl
    · rw [← e6']; exact T.2.1
    · rw [← e6']; exact TL_s ((List.suffix_cons _ _).trans W.2.2) hL
    · intro z
      rw [← e6']
      exact ⟨(htq z).2, T.2.2.2 (Or.inr (htq z).1)⟩
theorem ist_x (hF : 1000 ≤ F) (hB : base = 20 ∨ base = 21) (h : BX M q n f ord nw p0 base A v td t lv br) : ∃ M', fX2_isTest F M = some (bI (decide (td = true ∨ bnd (tpk (fo 5 A v).1) = 4)), M') ∧ sp_fr [99] [(97, 3), (96, 4)] M M' ∧ BX M' q n f ord nw p0 base (fo 5 A v).1 (fo 5 A v).2 td t lv br := by
  have h0 := b0 hB
  obtain ⟨Ai, p, len, m, nn, rfl, hX, hS, ht, hw, hL, htd, h8⟩ := h
  obtain ⟨M1, Ai1, p1, len1, m1, n1, e1, e2, e3, e4, e5, e6, e7⟩ := ist_c hF h0 hX hS hw h8
  have W := fo_wf (b := 5) (by omega) h0 (drp Ai) br v hw
  refine ⟨M1, e1, e2, Ai1, p1, len1, m1, n1, e6, e3, e4, by omega, W.1, TL_s W.2.2 hL, fun z => ?_, (e2.1 96 8 (by decide) (by decide)).trans h8⟩
  have t := htd z
  have t3 := cTB_3 t.2
  rw [fo_id (show bnd (tpk (drp Ai)) < 5 by omega)]
  exact t
theorem Fok_x {b : Nat} (hb : 1 ≤ b) (hb3 : b ≤ 3) (hB : base = 20 ∨ base = 21) (h : BX M q n f ord nw p0 base A v td t lv br) (hT : td = true ∨ bnd (tpk (fo 5 A v).1) = 4) : Fok b (fo 5 A v).1 (fo 5 A v).2 ∧ ev_T (fo b (fo 5 A v).1 (fo 5 A v).2).2 := by
  obtain ⟨Ai, p, len, m, nn, rfl, hX, hS, ht, hw, hL, htd, h8⟩ := h
  exact Fok_12 hb hb3 (b0 hB) hw hL (fun z => ⟨(htd z).1, cTB_3 (htd z).2⟩) hT
theorem BX_t (h : BX M q n f ord nw p0 base A v td t lv br) : TXC M q n ∧ TKC M q n f := by
  obtain ⟨Ai, p, len, m, nn, rfl, hX, _⟩ := h
  exact ⟨hX.1, hX.2.1⟩
theorem BX_w (h : BX M q n f ord nw p0 base A v td t lv br) : WFk base A br := by
  obtain ⟨Ai, p, len, m, nn, rfl, hX, _, _, hw, _⟩ := h
  exact hw
/-- closes: a test's bracket -/
theorem cy1_c (hF : 1000 ≤ F) (hB : base = 20 ∨ base = 21) (hbr : br ≤ 8) (h : BX M q n f ord nw p0 base A v td t lv br) (hs : sg q n f 41 = true) (hT : td = true ∨ bnd (tpk (fo 5 A v).1) = 4) (h23 : tpk (fo 1 (fo 5 A v).1 (fo 5 A v).2).1 = 23) : ∃ M', fX2_closes F M = some (1, M') ∧ xfr M M' ∧ BX M' q n (nxt q n f) ord nw p0 base (fo 1 (fo 5 A v).1 (fo 5 A v).2).1.tail (fo 1 (fo 5 A v).1 (fo 5 A v).2).2 true t lv (br - 1) := by
  have s41 : fX8_isSign M 41 = some (bI true) := by rw [← hs]; exact sgb_c (BX_t h).1 (BX_t h).2 (b := 41) (by omega)
  have K := Fok_x (b := 1) (by omega) (by omega) hB h hT
  obtain ⟨M1, e1, e2, e3⟩ := ist_x hF hB h
  obtain ⟨M2, r1, r2, r3⟩ := cl_c (tq := true) (b := 1) (kk := 23) hF hB hbr e3 rfl (by omega) (by omega) rfl (Or.inr rfl) K.1 (fun _ => ⟨rfl, K.2⟩) h23
  refine ⟨M2, ?_, (e2.mono (by decide) (by decide)).tr r2, r3⟩
  unfold fX2_closes
  rw [s41, Option.bind_some, if_neg (by decide), e1, Option.bind_some]
  dsimp only
  rw [decide_eq_true hT, if_neg (by decide)]
  exact r1
theorem sg_ne {b c : Nat} (h : sg q n f b = true) (hbc : b ≠ c) : sg q n f c = false := by
  refine Bool.eq_false_iff.2 fun z => ?_
  exact hbc ((sg_S h).2.symm.trans (sg_S z).2)
/-- closes: a sum's bracket -/
theorem cy2_c (hF : 1000 ≤ F) (hB : base = 20 ∨ base = 21) (hbr : br ≤ 8) (h : BX M q n f ord nw p0 base A v td t lv br) (hs : sg q n f 93 = true) (h22 : tpk (fo 5 A v).1 = 22) : ∃ M', fX2_closes F M = some (1, M') ∧ xfr M M' ∧ BX M' q n (nxt q n f) ord nw p0 base (fo 5 A v).1.tail (fo 5 A v).2 false t lv (br - 1) := by
  have s41 : fX8_isSign M 41 = some (bI false) := by rw [← sg_ne hs (show 93 ≠ 41 by decide)]; exact sgb_c (BX_t h).1 (BX_t h).2 (b := 41) (by omega)
  have s93 : fX8_isSign M 93 = some (bI true) := by rw [← hs]; exact sgb_c (BX_t h).1 (BX_t h).2 (b := 93) (by omega)
  obtain ⟨M2, r1, r2, r3⟩ := cl_c (tq := false) (b := 5) (kk := 22) hF hB hbr h rfl (by omega) (by omega) rfl (Or.inl rfl) (Fok_4 (by omega) _ _) (fun z => by cases z) h22
  refine ⟨M2, ?_, r2, r3⟩
  unfold fX2_closes
  rw [s41, Option.bind_some, if_pos (show bI false = 0 from rfl), s93, Option.bind_some, if_neg (show ¬ bI true = 0 by decide)]
  exact r1
/-- closes: refused -/
theorem cno_c (hF : 1000 ≤ F) (hB : base = 20 ∨ base = 21) (h : BX M q n f ord nw p0 base A v td t lv br) (n1 : ¬ (sg q n f 41 = true ∧ (td = true ∨ bnd (tpk (fo 5 A v).1) = 4))) (n2 : ¬ (sg q n f 93 = true ∧ tpk (fo 5 A v).1 = 22)) : ∃ M' A' v', fX2_closes F M = some (0, M') ∧ sp_fr [99] [(97, 3), (96, 4)] M M' ∧ BX M' q n f ord nw p0 base A' v' td t lv br ∧ fo 5 A' v' = fo 5 A v := by
  have h0 := b0 hB
  have s41 : fX8_isSign M 41 = some (bI (sg q n f 41)) := sgb_c (BX_t h).1 (BX_t h).2 (b := 41) (by omega)
  have s93 : fX8_isSign M 93 = some (bI (sg q n f 93)) := sgb_c (BX_t h).1 (BX_t h).2 (b := 93) (by omega)
  have W := fo_wf (b := 5) (by omega) h0 A br v (BX_w h)
  unfold fX2_closes
  rw [s41, Option.bind_some]
  cases z : sg q n f 41 with
  | true =>
    have nT : ¬ (td = true ∨ bnd (tpk (fo 5 A v).1) = 4) := fun w => n1 ⟨z, w⟩
    obtain ⟨M1, e1, e2, e3⟩ := ist_x hF hB h
    refine ⟨M1, _, _, ?_, e2, e3, fo_fo (by omega) h0 (BX_w h)⟩
    rw [if_neg (by decide), e1, Option.bind_some]
    dsimp only
    rw [decide_eq_false nT, if_pos (show bI false = 0 from rfl)]
  | false =>
    rw [if_pos (show bI false = 0 from rfl), s93, Option.bind_some]
    cases y : sg q n f 93 with
    | true =>
      have nT : tpk (fo 5 A v).1 ≠ 22 := fun w => n2 ⟨y, w⟩
      obtain ⟨M1, e1, e2, e3⟩ := fold5_x hF h0 h
      refine ⟨M1, _, _, ?_, e2, e3, fo_fo (by omega) h0 (BX_w h)⟩
      have tp : fX2_top M1 = some (nI (tpk (fo 5 A v).1)) ∧ tpk (fo 5 A v).1 < 24 := by
        obtain ⟨Ai, p, len, m, nn, e, hX, _⟩ := e3
        have := top_w hX.2.2.1 (by rw [e]; exact wf_ne W.1)
        rw [e] at this
        exact this
      rw [if_neg (by decide)]
      unfold fX2_closes_j38 fX2_closes_j48 fX2_closes_j66
      rw [if_pos (show bI false = 0 from rfl), if_pos (show bI false = 0 from rfl), e1, Option.bind_some, tp.1, Option.bind_some, if_neg (show ¬ nI (tpk (fo 5 A v).1) = 22 from fun w => nT ((nIe (b := 22) (by omega) (by omega)).1 w))]
    | false =>
      exact ⟨M, A, v, by rw [if_pos (show bI false = 0 from rfl)], sp_fr.refl _ _ _, h, rfl⟩
/-- closes: a bracket too many -/
theorem c2_c (hF : 1000 ≤ F) (hB : base = 20 ∨ base = 21) (h : BX M q n f ord nw p0 base A v td t lv br) (hs : sg q n f 41 = true) (hT : td = true ∨ bnd (tpk (fo 5 A v).1) = 4) (h23 : tpk (fo 1 (fo 5 A v).1 (fo 5 A v).2).1 ≠ 23) : ∃ M', fX2_closes F M = some (0, M') ∧ sp_fr [99] [(97, 3), (96, 4)] M M' ∧ BX M' q n f ord nw p0 base (fo 1 (fo 5 A v).1 (fo 5 A v).2).1 (fo 1 (fo 5 A v).1 (fo 5 A v).2).2 td t lv br := by
  have h0 := b0 hB
  have s41 : fX8_isSign M 41 = some (bI true) := by rw [← hs]; exact sgb_c (BX_t h).1 (BX_t h).2 (b := 41) (by omega)
  have K := Fok_x (b := 1) (by omega) (by omega) hB h hT
  have C : cTB (tpk (fo 1 (fo 5 A v).1 (fo 5 A v).2).1) = true := by
    obtain ⟨Ai, p, len, m, nn, rfl, hX, hS, ht, hw, hL, htd, h8⟩ := h
    exact isT_ctb (by omega) (by omega) h0 hw htd hT
  obtain ⟨M1, e1, e2, e3⟩ := ist_x hF hB h
  obtain ⟨Ai, p, len, m, nn, e, hX, hS, ht, hw, hL, htd, h8⟩ := e3
  obtain ⟨M2, Ai2, p2, len2, m2, n2, g1, g2, g3, g4, g5, g6, g7⟩ := fold_w (b := 1) hF (by omega) (by omega) hX hS (by rw [e]; exact K.1)
  rw [e] at g4 g6
  have W := fo_wf (b := 1) (by omega) h0 _ br (fo 5 A v).2 hw
  have tp := top_w g3.2.2.1 (by rw [g6]; exact wf_ne W.1)
  rw [g6] at tp
  refine ⟨M2, ?_, e2.tr g2, Ai2, p2, len2, m2, n2, g6, g3, g4, by omega, W.1, TL_s W.2.2 hL, fun _ => ⟨K.2, C⟩, (g2.1 96 8 (by decide) (by decide)).trans h8⟩
  unfold fX2_closes
  rw [s41, Option.bind_some, if_neg (by decide), e1, Option.bind_some]
  dsimp only
  rw [decide_eq_true hT, if_neg (by decide)]
  unfold fX2_closes_j38 fX2_closes_j48 fX2_closes_j66
  rw [if_neg (show ¬ bI true = 0 by decide), if_neg (show ¬ bI true = 0 by decide), show fX2_fold F M1 1 = some M2 from g1, Option.bind_some, tp.1, Option.bind_some, if_neg (show ¬ nI (tpk (fo 1 (fo 5 A v).1 (fo 5 A v).2).1) = 23 from fun w => h23 ((nIe (b := 23) (by omega) (by omega)).1 w))]
end Clo1
