/-! ===== expressions: one round of the reference while it expects ===== -/
/-- the reference, expecting: its pile is B -/
def ER (M : sp_Mem) (q : Nat → Nat) (n f : Nat) (ord : Bool) (nw : Nat) (p0 : PP) (base : Nat) (B : Sk) (t lv br : Nat) : Prop := ∃ Bi len, drp Bi = B ∧ YC M q n f ord nw p0 Bi len len t lv br ∧ WB base B ∧ WFk base (cnc base B) br ∧ TL B
def BR (M : sp_Mem) (q : Nat → Nat) (n f : Nat) (ord : Bool) (nw : Nat) (p0 : PP) (base : Nat) (B : Sk) (v : ev_S) (td : Bool) (t lv br : Nat) : Prop := ∃ Bi p len m nn, drp Bi = B ∧ YC M q n f ord nw p0 Bi p len m lv br ∧ ev_Seg nw (rcM M (bI ord) len) p len v nn ∧ m + nn = t ∧ WB base B ∧ WFk base (cnc base B) br ∧ TL B ∧ (td = true → ev_T v ∧ cTB (tpk (cnc base B)) = true)
def rsE (A : Sk) : Int32 := if cTB (tpk A) = true then 0 else 1
theorem wdx6_1 {q : Nat → Nat} {n f : Nat} : (wdx q n f cs_6 = some 0) ↔ isP q n f 14836 = true := by
  rw [wdx_e]
  unfold cs_6
  rw [fnd, fnd]
  by_cases z : isP q n f 14836 = true
  · rw [if_pos z]; exact ⟨fun _ => z, fun _ => rfl⟩
  · rw [if_neg z]; exact ⟨fun w => (by cases w), fun w => (z w).elim⟩
section YSte
variable {p0 : PP} {F n f t lv br base : Nat} {q : Nat → Nat} {ord : Bool} {M : sp_Mem} {B : Sk}
theorem rdE {kx : sp_Mem → Option sp_Mem} {k : Nat} {a1 : Int32} {A : Sk} (h19 : sp_I M 103 19 = 0) {x : Int32 × sp_Mem} (h0 : cTB (tpk A) = true → fX11_readPlain F M = some x) (h1 : cTB (tpk A) = false → fX11_readPart F M = some x) : fX11_readExpression_l20 F kx (k + 1) a1 (rsE A) M = fX11_readExpression_l20 F kx k a1 x.1 x.2 := by
  rw [fX11_readExpression_l20, if_pos h19]
  unfold rsE
  cases z : cTB (tpk A) with
  | true => rw [show (if true = true then (0 : Int32) else 1) = 0 from rfl, if_neg (by decide), if_pos rfl, h0 z, Option.bind_some]
  | false => rw [show (if false = true then (0 : Int32) else 1) = 1 from rfl, if_neg (by decide), if_neg (by decide), if_pos rfl, h1 z, Option.bind_some]
theorem rd_f {kx : sp_Mem → Option sp_Mem} {k : Nat} {a1 a2 : Int32} {f' : Nat} (h : FS M q n f') : fX11_readExpression_l20 F kx (k + 1) a1 a2 M = kx M := by
  rw [fX11_readExpression_l20, if_neg (by rw [h.2.1]; decide)]
theorem plain_e {Bi : List (Nat × ev_S × Nat)} {len m nw : Nat} (h : YC M q n f ord nw p0 Bi len len m lv br) (hx : ¬ wdx q n f cs_6 = some 0) (h40 : sg q n f 40 = false) {x : Int32 × sp_Mem} (hp : fX11_readPart F M = some x) : fX11_readPlain F M = some x := by
  unfold fX11_readPlain
  rw [if_pos ((isWb (F := F) h.1 h.2.1 _).2 (fun w => hx (wdx6_1.2 w))), show fX11_isSign M 40 = bI false by rw [← h40]; exact sgb_r h.1 h.2.1 (b := 40) (by omega), if_pos (show bI false = 0 from rfl), hp, Option.bind_some]
theorem yste_r {kx : sp_Mem → Option sp_Mem} {kf : Nat} {a1 : Int32} (hF : 1000 ≤ F) (hB : base = 20 ∨ base = 21) (hbr : br ≤ 8) (hlv : lv ≤ 50) (h : ER M q n f ord (nwO ord) p0 base B t lv br) :
  (∀ f', stE q n ord (f, cnc base B, lv, br) = .inl f' → ∃ M', fX11_readExpression_l20 F kx (kf + 2) a1 (rsE (cnc base B)) M = kx M' ∧ yfr M M' ∧ FS M' q n f') ∧
  (∀ s, stE q n ord (f, cnc base B, lv, br) = .inr (.inl s) → ∃ M' B', fX11_readExpression_l20 F kx (kf + 2) a1 (rsE (cnc base B)) M = fX11_readExpression_l20 F kx (kf + 1) a1 (rsE s.2.1) M' ∧ yfr M M' ∧ cnc base B' = s.2.1 ∧ ER M' q n s.1 ord (nwO ord) p0 base B' t s.2.2.1 s.2.2.2) ∧
  (∀ s, stE q n ord (f, cnc base B, lv, br) = .inr (.inr s) → ∃ M', fX11_readExpression_l20 F kx (kf + 2) a1 (rsE (cnc base B)) M = fX11_readExpression_l20 F kx (kf + 1) a1 3 M' ∧ yfr M M' ∧ s.2.1 = cnc base B ∧ BR M' q n s.1 ord (nwO ord) p0 base B s.2.2.1 false (t + 1) s.2.2.2.2.1 s.2.2.2.2.2 ∧ s.2.2.2.1 = false) := by
  obtain ⟨Bi, len, rfl, hY, hWB, hw, hL⟩ := h
  have h19 := hY.2.2.2.2.2.2.1
  have hfn := hY.2.1.1
  have hn := hY.1.1
  have hbu := hY.2.2.2.2.2.2.2.2
  have hL2 : TL (cnc base (drp Bi)) := by
    have : ∀ B : Sk, TL B → TL (cnc base B) := by
      intro B
      induction B with
      | nil =>
        intro _ x hx hk
        rcases List.mem_cons.mp hx with e | e
        · rw [e] at hk
          have hk : base = 12 ∨ base = 13 := hk
          omega
        · cases e
      | cons x B ih =>
        intro hL
        have i := ih (fun y hy => hL y (List.mem_cons_of_mem _ hy))
        by_cases c : x.1 = 11 ∧ tpk (cnc base B) = 11
        · rw [cnc_1 c]; exact fun y hy => i y (List.mem_of_mem_tail hy)
        · rw [cnc_2 c]
          intro y hy
          rcases List.mem_cons.mp hy with e | e
          · rw [e]; exact hL x (by simp)
          · exact i y e
    exact this _ hL
  have Wf := stE_wf (q := q) (ord := ord) hB hfn hbr hlv hw hL2
  have fail : ∀ {r : Int32} {f' : Nat}, (∃ M', (cTB (tpk (cnc base (drp Bi))) = true → fX11_readPlain F M = some (r, M')) ∧ (cTB (tpk (cnc base (drp Bi))) = false → fX11_readPart F M = some (r, M')) ∧ yfr M M' ∧ FS M' q n f') → ∃ M', fX11_readExpression_l20 F kx (kf + 2) a1 (rsE (cnc base (drp Bi))) M = kx M' ∧ yfr M M' ∧ FS M' q n f' := by
    rintro r f' ⟨M', e0, e1, e2, e3⟩
    refine ⟨M', ?_, e2, e3⟩
    rw [rdE h19 e0 e1]
    exact rd_f e3
  by_cases hx : wdx q n f cs_6 = some 0
  · have hS : tkS q n f ≠ 0 := by rw [wdx_S hx]; decide
    have hno := wdx_not hx
    have hS1 := wdx_S hx
    have hg := nxt_gt hfn hS
    unfold stE at Wf ⊢
    dsimp only at Wf ⊢
    rw [if_pos hx] at Wf ⊢
    by_cases hc : cTB (tpk (cnc base (drp Bi))) = true
    · -- pushed
      obtain ⟨hT, hK, hP, h26, h30, h20, _, hC, _⟩ := hY
      have f1 : sp_fr [116, 117] [(103, 29)] M (sp_setI (sp_setI (sp_setI M 116 Bi.length (nI (rk 11))) 117 Bi.length 0) 103 29 (nI (Bi.length + 1))) := ((sp_fr_I (Or.inl (by decide)) rfl).tr (sp_fr_I (Or.inl (by decide)) rfl)).tr (sp_fr_I (Or.inr (by decide)) rfl)
      have P1 := PSR_push (k := 11) (g := zS) (p' := len) (m' := t) hP (by omega) (by unfold okK; omega) (by omega) (fun code hl _ => by unfold Lay; rw [if_neg (by omega), if_neg (by omega)]; exact hl)
      have hg1 := tkT_b (q := q) hK.1
      obtain ⟨M2, e1, e2, e3, e4⟩ := next_r hF (TXR_fr f1 hT (by decide)) hg1.2 ((f1.1 103 15 (by decide) (by decide)).trans hK.2.2.1)
      have Y2 : YC M2 q n (nxt q n f) ord (nwO ord) p0 ((11, zS, 0) :: Bi) len len t lv br := ⟨e3, e4, PSR_fr e2 (by decide) P1, (e2.1 103 26 (by decide) (by decide)).trans ((f1.1 103 26 (by decide) (by decide)).trans h26), (e2.1 103 30 (by decide) (by decide)).trans ((f1.1 103 30 (by decide) (by decide)).trans h30), (e2.1 103 20 (by decide) (by decide)).trans ((f1.1 103 20 (by decide) (by decide)).trans h20), (e2.1 103 19 (by decide) (by decide)).trans ((f1.1 103 19 (by decide) (by decide)).trans h19), i8_fr e2 (by decide) (i8_fr f1 (by decide) hC), by rw [List.length_cons]; omega⟩
      have hcall : fX11_readPlain F M = some (0, M2) := by
        unfold fX11_readPlain
        rw [if_neg (fun w => ((isWb (F := F) hT hK _).1 w) (wdx6_1.1 hx)), show fX11_push M 28 0 = some _ from pushr hP.2.2.1 (show Bi.length < 400 by omega) 28 0, Option.bind_some]
        rw [show fX11_next F (sp_setI (sp_setI (sp_setI M 116 Bi.length 28) 117 Bi.length 0) 103 29 (nI (Bi.length + 1))) = some M2 from e1, Option.bind_some]
      have go : ∀ s : StE, s.1 = nxt q n f → s.2.2.1 = lv → s.2.2.2 = br → cnc base ((11, zS) :: drp Bi) = s.2.1 → WFk base s.2.1 br → cTB (tpk s.2.1) = true → ∃ M' B', fX11_readExpression_l20 F kx (kf + 2) a1 (rsE (cnc base (drp Bi))) M = fX11_readExpression_l20 F kx (kf + 1) a1 (rsE s.2.1) M' ∧ yfr M M' ∧ cnc base B' = s.2.1 ∧ ER M' q n s.1 ord (nwO ord) p0 base B' t s.2.2.1 s.2.2.2 := by
        intro s s1 s2 s3 s4 s5 s6
        refine ⟨M2, (11, zS) :: drp Bi, ?_, (f1.mono (by decide) (by decide)).tr (e2.mono (by decide) (by decide)), s4, (11, zS, 0) :: Bi, len, rfl, ?_, WB_cons hWB (by rw [s4]; exact s5), by rw [s4, s3]; exact s5, TL_cons hL (fun z => (by omega))⟩
        · rw [rdE h19 (fun _ => hcall) (fun z => (by rw [hc] at z; cases z))]
          unfold rsE
          rw [if_pos s6]
        · rw [s1, s2, s3]; exact Y2
      rw [if_pos hc] at Wf ⊢
      by_cases h11 : tpk (cnc base (drp Bi)) = 11
      · rw [if_pos h11] at Wf ⊢
        refine ⟨fun f' e => (by cases e), fun s e => ?_, fun s e => (by cases e)⟩
        have W := Wf.1 s e
        cases e
        obtain ⟨g, hgg⟩ := cnc_top h11
        have hw2 := hw
        rw [hgg] at hw2
        exact go _ rfl rfl rfl (cnc_1 (x := (11, zS)) ⟨rfl, h11⟩) W.1 (WFk_11 hB hw2).2.2.1
      · rw [if_neg h11] at Wf ⊢
        refine ⟨fun f' e => (by cases e), fun s e => ?_, fun s e => (by cases e)⟩
        have W := Wf.1 s e
        cases e
        exact go _ rfl rfl rfl (cnc_2 (x := (11, zS)) (fun z => h11 z.2)) W.1 (cTB_b (Or.inl rfl))
    · rw [if_neg hc]
      refine ⟨fun f' e => ?_, fun s e => (by cases e), fun s e => (by cases e)⟩
      cases e
      have s91 : sg q n f 91 = false := Bool.eq_false_iff.2 fun z => by have := (sg_S z).1; omega
      obtain ⟨M', e1, e2, e3⟩ := lf_no hF hY hlv s91 (Or.inr ⟨by omega, hno.1, hno.2⟩)
      exact fail ⟨M', fun z => (hc z).elim, fun _ => e1, e2, e3⟩
  · have nP : ∀ {x : Int32 × sp_Mem}, sg q n f 40 = false → fX11_readPart F M = some x → fX11_readPlain F M = some x := fun z y => plain_e hY hx z y
    unfold stE at Wf ⊢
    dsimp only at Wf ⊢
    rw [if_neg hx] at Wf ⊢
    by_cases s40 : sg q n f 40 = true
    · have hS : tkS q n f ≠ 0 := by rw [(sg_S s40).1]; decide
      have hS3 := (sg_S s40).1
      have O := obr_r (k := 23) hF hbr hY hS (Or.inr rfl)
      have call : ∀ {M'}, fX11_openBracket F M (nI (rk 23)) = some M' → fX11_readPlain F M = some (0, M') := by
        intro M' e
        unfold fX11_readPlain
        rw [if_pos ((isWb (F := F) hY.1 hY.2.1 _).2 (fun w => hx (wdx6_1.2 w))), show fX11_isSign M 40 = bI true by rw [← s40]; exact sgb_r hY.1 hY.2.1 (b := 40) (by omega), if_neg (by decide), show fX11_openBracket F M 31 = some M' from e, Option.bind_some]
      rw [if_pos s40] at Wf ⊢
      by_cases hc : cTB (tpk (cnc base (drp Bi))) = true ∧ br < 8
      · rw [if_pos hc] at Wf ⊢
        refine ⟨fun f' e => (by cases e), fun s e => ?_, fun s e => (by cases e)⟩
        have W := Wf.1 s e
        cases e
        obtain ⟨M', e1, e2, e3⟩ := O.1 hc.2
        have ce : cnc base ((23, zS) :: drp Bi) = (23, zS) :: cnc base (drp Bi) := cnc_2 (fun z => by have := z.1; omega)
        refine ⟨M', (23, zS) :: drp Bi, ?_, e2, ce, (23, zS, 0) :: Bi, len, rfl, e3, WB_cons hWB (by rw [ce]; exact W.1), by rw [ce]; exact W.1, TL_cons hL (fun z => (by omega))⟩
        rw [rdE h19 (fun _ => call e1) (fun z => (by rw [hc.1] at z; cases z))]
        rfl
      · rw [if_neg hc]
        refine ⟨fun f' e => ?_, fun s e => (by cases e), fun s e => (by cases e)⟩
        cases e
        cases z : cTB (tpk (cnc base (drp Bi))) with
        | true =>
          obtain ⟨M', e1, e2, e3⟩ := O.2 (fun w => hc ⟨z, w⟩)
          have := fail (r := 0) (f' := f) ⟨M', fun _ => call e1, fun w => (by rw [z] at w; cases w), e2, e3⟩
          exact this
        | false =>
          obtain ⟨M', e1, e2, e3⟩ := lf_no hF hY hlv (sg_ne s40 (by decide)) (Or.inr ⟨by omega, wdx_sg _ (by omega), wdx_sg _ (by omega)⟩)
          exact fail ⟨M', fun w => (by rw [z] at w; cases w), fun _ => e1, e2, e3⟩
    · have s40' : sg q n f 40 = false := Bool.eq_false_iff.2 s40
      have both : ∀ {x : Int32 × sp_Mem}, fX11_readPart F M = some x → fX11_readExpression_l20 F kx (kf + 2) a1 (rsE (cnc base (drp Bi))) M = fX11_readExpression_l20 F kx (kf + 1) a1 x.1 x.2 := fun e => rdE h19 (fun _ => nP s40' e) (fun _ => e)
      rw [if_neg s40] at Wf ⊢
      by_cases s91 : sg q n f 91 = true
      · have hS : tkS q n f ≠ 0 := by rw [(sg_S s91).1]; decide
        have O := obr_r (k := 22) hF hbr hY hS (Or.inl rfl)
        have call : ∀ {M'}, fX11_openBracket F M (nI (rk 22)) = some M' → fX11_readPart F M = some (1, M') := by
          intro M' e
          unfold fX11_readPart
          rw [show fX11_isSign M 91 = bI true by rw [← s91]; exact sgb_r hY.1 hY.2.1 (b := 91) (by omega), if_neg (by decide), show fX11_openBracket F M 32 = some M' from e, Option.bind_some]
        rw [if_pos s91] at Wf ⊢
        by_cases hc : br < 8
        · rw [if_pos hc] at Wf ⊢
          refine ⟨fun f' e => (by cases e), fun s e => ?_, fun s e => (by cases e)⟩
          have W := Wf.1 s e
          cases e
          obtain ⟨M', e1, e2, e3⟩ := O.1 hc
          have ce : cnc base ((22, zS) :: drp Bi) = (22, zS) :: cnc base (drp Bi) := cnc_2 (fun z => by have := z.1; omega)
          refine ⟨M', (22, zS) :: drp Bi, ?_, e2, ce, (22, zS, 0) :: Bi, len, rfl, e3, WB_cons hWB (by rw [ce]; exact W.1), by rw [ce]; exact W.1, TL_cons hL (fun z => (by omega))⟩
          rw [both (call e1)]
          rfl
        · rw [if_neg hc]
          refine ⟨fun f' e => ?_, fun s e => (by cases e), fun s e => (by cases e)⟩
          cases e
          obtain ⟨M', e1, e2, e3⟩ := O.2 hc
          refine ⟨M', ?_, e2, e3⟩
          rw [both (call e1)]
          exact rd_f e3
      · have s91' : sg q n f 91 = false := Bool.eq_false_iff.2 s91
        rw [if_neg s91] at Wf ⊢
        by_cases hl : lv < 50
        · have L := lf_r hF hY hl s91'
          rw [if_pos hl] at Wf ⊢
          cases hE : lfE q n ord f with
          | inl f1 =>
            refine ⟨fun f' e => ?_, fun s e => (by cases e), fun s e => (by cases e)⟩
            cases e
            obtain ⟨M', e1, e2, e3⟩ := L.1 f1 hE
            refine ⟨M', ?_, e2, e3⟩
            rw [both e1]
            exact rd_f e3
          | inr y =>
            obtain ⟨f1, v1⟩ := y
            refine ⟨fun f' e => (by cases e), fun s e => (by cases e), fun s e => ?_⟩
            cases e
            obtain ⟨M', e1, e2, e3, e4⟩ := L.2 f1 v1 hE
            refine ⟨M', both e1, e2, rfl, ⟨Bi, len, len + 1, t, 1, rfl, e3, e4, rfl, hWB, hw, hL, fun z => (by cases z)⟩, rfl⟩
        · rw [if_neg hl]
          refine ⟨fun f' e => ?_, fun s e => (by cases e), fun s e => (by cases e)⟩
          cases e
          obtain ⟨M', e1, e2, e3⟩ := lf_no hF hY hlv s91' (Or.inl hl)
          refine ⟨M', ?_, e2, e3⟩
          rw [both e1]
          exact rd_f e3
end YSte
