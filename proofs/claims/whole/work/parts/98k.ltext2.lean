/-! ===== texts: the class reads a clause ===== -/
/-- times, in orders -/
def tmR (q : Nat → Nat) (n f lv : Nat) (c : GC) : Nat ⊕ (Nat × Nat × GC) := if wdx q n f cs_5 = some 0 then (if tkS q n (nxt q n f) = 2 ∧ 1 ≤ nbT q n (nxt q n f) ∧ nbT q n (nxt q n f) ≤ 20 then tsR q n true (nxt q n (nxt q n f)) lv (c.1, c.2.1, c.2.2.1, nbT q n (nxt q n f), c.2.2.2.2) else .inl (nxt q n f)) else tsR q n true f lv c
def ordR (q : Nat → Nat) (n f lv : Nat) : Nat ⊕ (Nat × Nat × GC) := match wdx q n f cs_2 with
  | none => .inl f
  | some j => if j = 3 then tmR q n (nxt q n f) lv (3, none, none, 1, none) else (match xr q n true 20 (nxt q n f) lv with
    | .inl g => .inl g
    | .inr (g, lv', v) => if j = 1 then tmR q n g lv' (1, some v, none, 1, none) else if wdx q n g (if j = 0 then cs_3 else cs_4) = some 0 then (match xr q n true 20 (nxt q n g) lv' with
        | .inl g2 => .inl g2
        | .inr (g2, lv2, w) => tmR q n g2 lv2 (j, some v, some w, 1, none)) else .inl g)
def tT (c : GC) : Prop := ∀ t, c.2.2.2.2 = some t → ev_T t
def tailX (F : Nat) (M : sp_Mem) : Option (Int32 × sp_Mem) := (fX2_takes F M 1).bind fun x8 => if x8.1 = 0 then (some (1, x8.2)) else ((fX2_readValue F x8.2 4).bind fun x10 => some ((if x10.1 = 0 then 0 else 1), x10.2))
/-- a reader of the class that follows the machine's reader rd -/
def StC (q : Nat → Nat) (n : Nat) (rdF : sp_Mem → Option (Int32 × sp_Mem)) (rd : Nat ⊕ (Nat × Nat × GC)) (ord : Bool) (M : sp_Mem) (cl : List GC) : Prop := (∀ g, rd = .inl g → ∃ b M', rdF M = some (b, M') ∧ cfr M M' ∧ TXC M' q n ∧ TKC M' q n g ∧ (b = 0 ∨ (b = 1 ∧ sg q n g 41 = true))) ∧ (∀ g lv' c, rd = .inr (g, lv', c) → ∃ M' len', rdF M = some (1, M') ∧ cfr M M' ∧ CR M' q n g ord len' lv' (cl.length + 1) ∧ CLG (nwO ord) (sp_I M' 98) (sp_I M' 99) len' (cl ++ [c]) ∧ tT c)
section LText2
variable {F n f len lv : Nat} {q : Nat → Nat} {ord : Bool} {M : sp_Mem} {cl : List GC} {c : GC}
theorem CLG_fr {M M' : sp_Mem} {A : List Nat} {B : List (Nat × Nat)} {nw : Nat} (hf : sp_fr A B M M') (hd : dj [98, 99] [] A B = true) (h : CLG nw (sp_I M 98) (sp_I M 99) len cl) : CLG nw (sp_I M' 98) (sp_I M' 99) len cl := by
  rw [fr_A hf hd 98 (by decide), fr_A hf hd 99 (by decide)]
  exact h
theorem StC_pre {M1 : sp_Mem} {rdF rdF' : sp_Mem → Option (Int32 × sp_Mem)} {rd : Nat ⊕ (Nat × Nat × GC)} (hf : cfr M M1) (he : rdF M = rdF' M1) (h : StC q n rdF' rd ord M1 cl) : StC q n rdF rd ord M cl := by
  refine ⟨fun g e => ?_, fun g lv' c e => ?_⟩
  · obtain ⟨b, M', e1, e2, e3⟩ := h.1 g e
    exact ⟨b, M', he.trans e1, hf.tr e2, e3⟩
  · obtain ⟨M', len', e1, e2, e3⟩ := h.2 g lv' c e
    exact ⟨M', len', he.trans e1, hf.tr e2, e3⟩
theorem StC_f {g : Nat} {rdF : sp_Mem → Option (Int32 × sp_Mem)} (h : ∃ M', rdF M = some (0, M') ∧ cfr M M' ∧ TXC M' q n ∧ TKC M' q n g) : StC q n rdF (.inl g) ord M cl := by
  obtain ⟨M', e1, e2, e3, e4⟩ := h
  refine ⟨fun g' e => ?_, fun g' lv' c e => (by cases e)⟩
  cases e
  exact ⟨0, M', e1, e2, e3, e4, Or.inl rfl⟩
theorem ts_c (hF : 1000 ≤ F) (h : CR M q n f ord len lv (cl.length + 1)) (hG : CLG (nwO ord) (sp_I M 98) (sp_I M 99) len (cl ++ [c])) (hc : c.2.2.2.2 = none) : StC q n (tailX F) (tsR q n ord f lv c) ord M cl := by
  have T := takes_c (o := 1) (cs := cs_1) hF h (plc_1 hF h.1 h.2.1) (wdx1 _)
  unfold tsR
  by_cases hx : wdx q n f cs_1 = some 0
  · rw [if_pos hx]
    obtain ⟨M1, e1, e2, e3, e4⟩ := T.1 hx
    have hG1 := CLG_fr e2 (by decide) hG
    have V := val_g (base := 21) (a := 4) hF (Or.inr rfl) (Or.inr (Or.inr rfl)) rfl e3 hG1 (by have := h.2.2.2.2.2.2.2.2.2.2; omega)
    have pre : tailX F M = ((fX2_readValue F M1 4).bind fun x10 => some ((if x10.1 = 0 then 0 else 1), x10.2)) := by
      unfold tailX
      rw [e1, Option.bind_some]
      dsimp only
      rw [if_neg (by decide)]
    cases hr : xr q n ord 21 (nxt q n f) lv with
    | inl g1 =>
      refine ⟨fun g e => ?_, fun g lv' c' e => (by cases e)⟩
      cases e
      obtain ⟨b, M', r1, r2, r3, r4, r5⟩ := V.1 g1 hr
      refine ⟨b, M', ?_, (e2.mono (by decide) (by decide)).tr r2, r3, r4, r5.imp id (fun w => ⟨w.1, w.2.1⟩)⟩
      rw [pre, show fX2_readValue F M1 4 = some (b, M') from r1, Option.bind_some]
      dsimp only
      rcases r5 with rfl | ⟨rfl, _⟩ <;> rfl
    | inr y =>
      obtain ⟨g1, lv1, v1⟩ := y
      refine ⟨fun g e => (by cases e), fun g lv' c' e => ?_⟩
      cases e
      obtain ⟨M', len', r1, r2, r3, r4, r5⟩ := V.2 g1 lv1 v1 hr
      refine ⟨M', len', ?_, (e2.mono (by decide) (by decide)).tr r2, r3, r4, fun t e => ?_⟩
      · rw [pre, show fX2_readValue F M1 4 = some (1, M') from r1, Option.bind_some]
        rfl
      · cases e
        exact r5 rfl
  · rw [if_neg hx]
    refine ⟨fun g e => (by cases e), fun g lv' c' e => ?_⟩
    cases e
    refine ⟨M, len, ?_, sp_fr.refl _ _ _, h, hG, fun t e => ?_⟩
    · unfold tailX
      rw [T.2 hx, Option.bind_some]
      rfl
    · rw [hc] at e; cases e
theorem law_c (hF : 1000 ≤ F) (h : CR M q n f false len lv cl.length) (hG : CLG (nwO false) (sp_I M 98) (sp_I M 99) len cl) (h12 : cl.length < 12) : StC q n (fX2_readLaw F) (lawR q n f lv) false M cl := by
  unfold lawR
  cases hx : wdx q n f cs_0 with
  | none =>
    refine StC_f ⟨M, ?_, sp_fr.refl _ _ _, h.1, h.2.1⟩
    unfold fX2_readLaw
    rw [plc_0 hF h.1 h.2.1, Option.bind_some, hx]
    rfl
  | some j =>
    have hj : j < 4 := wdx_lt hx
    have hg := nxt_gt h.2.1.1 (show tkS q n f ≠ 0 by rw [wdx_S hx]; decide)
    have hl := h.2.2.2.2.2.2.2.2.2.2
    obtain ⟨M1, a1, a2, a3, a4⟩ := addC (j := j) h hG rfl h12
    obtain ⟨M2, b1, b2, b3⟩ := CR_next hF a3
    have hG2 := CLG_fr b2 (by decide) a4
    have f2 : cfr M M2 := (a2.mono (by decide) (by decide)).tr (b2.mono (by decide) (by decide))
    have pre : fX2_readLaw F M = fX2_readLaw_j46 F (if nI j = 0 then 1 else (if nI j = 1 then 1 else 0)) M2 := by
      unfold fX2_readLaw
      rw [plc_0 hF h.1 h.2.1, Option.bind_some, hx, show oN (some j) = nI j from rfl, if_neg (nI_m1 (by omega)), a1, Option.bind_some, b1, Option.bind_some]
    dsimp only
    by_cases h2 : j < 2
    · rw [if_pos h2]
      have s1 : (if nI j = 0 then (1 : Int32) else (if nI j = 1 then 1 else 0)) = 1 := by
        have : j = 0 ∨ j = 1 := by omega
        rcases this with rfl | rfl <;> rfl
      rw [s1] at pre
      have V := val_g (base := 20) (a := 1) hF (Or.inl rfl) (Or.inl rfl) rfl b3 hG2 (by omega)
      have pre2 : fX2_readLaw F M = ((fX2_readValue F M2 1).bind fun x12 => if x12.1 = 0 then (some (0, x12.2)) else (tailX F x12.2)) := by
        rw [pre]
        unfold fX2_readLaw_j46
        rw [if_neg (by decide)]
        rfl
      cases hr : xr q n false 20 (nxt q n f) lv with
      | inl g1 =>
        obtain ⟨b, M', r1, r2, r3, r4, r5⟩ := V.1 g1 hr
        have hb : b = 0 := r5.resolve_right (fun w => absurd w.2.2 (by decide))
        subst hb
        refine StC_f ⟨M', ?_, f2.tr r2, r3, r4⟩
        rw [pre2, show fX2_readValue F M2 1 = some (0, M') from r1, Option.bind_some]
        dsimp only
        rw [if_pos rfl]
      | inr y =>
        obtain ⟨g1, lv1, v1⟩ := y
        obtain ⟨M', len', r1, r2, r3, r4, _⟩ := V.2 g1 lv1 v1 hr
        refine StC_pre (f2.tr r2) ?_ (ts_c (c := (j, some v1, none, 1, none)) hF r3 r4 rfl)
        rw [pre2, show fX2_readValue F M2 1 = some (1, M') from r1, Option.bind_some]
        dsimp only
        rw [if_neg (by decide)]
    · rw [if_neg h2]
      have s0 : (if nI j = 0 then (1 : Int32) else (if nI j = 1 then 1 else 0)) = 0 := by
        have : j = 2 ∨ j = 3 := by omega
        rcases this with rfl | rfl <;> rfl
      rw [s0] at pre
      refine StC_pre f2 ?_ (ts_c (c := (j, none, none, 1, none)) hF b3 hG2 rfl)
      rw [pre]
      unfold fX2_readLaw_j46
      rw [if_pos rfl]
      rfl
/-- times -/
theorem tm_c (hF : 1000 ≤ F) (h : CR M q n f true len lv (cl.length + 1)) (hG : CLG (nwO true) (sp_I M 98) (sp_I M 99) len (cl ++ [c])) (hc : c.2.2.2.2 = none) : StC q n (fX2_readOrder_j94 F) (tmR q n f lv c) true M cl := by
  have T := takes_c (o := 5) (cs := cs_5) hF h (plc_5 hF h.1 h.2.1) (wdx1 _)
  unfold tmR
  by_cases hx : wdx q n f cs_5 = some 0
  · rw [if_pos hx]
    obtain ⟨M1, e1, e2, e3, e4⟩ := T.1 hx
    have hG1 := CLG_fr e2 (by decide) hG
    have pre : fX2_readOrder_j94 F M = ((fX2_readTimes F M1).bind fun x15 => if x15.1 = 0 then (some (0, x15.2)) else (tailX F x15.2)) := by
      unfold fX2_readOrder_j94
      rw [e1, Option.bind_some]
      dsimp only
      rw [if_neg (by decide)]
      rfl
    have hnum : fX8_numberTo F M1 20 = _ := num_c (F := F) (lim := 20) hF (by omega) e3.1 e3.2.1
    have i1 : (1 : Int32).toInt = 1 := rfl
    have i20 : (20 : Int32).toInt = 20 := rfl
    by_cases h5 : tkS q n (nxt q n f) = 2 ∧ 1 ≤ nbT q n (nxt q n f) ∧ nbT q n (nxt q n f) ≤ 20
    · rw [if_pos h5]
      rw [if_pos h5.1] at hnum
      have hmin : min (nbN q (nxt q n f) (tkT q n (nxt q n f) - nxt q n f)) (20 + 1) = nbT q n (nxt q n f) := by
        have : nbT q n (nxt q n f) = nbN q (nxt q n f) (tkT q n (nxt q n f) - nxt q n f) := rfl
        omega
      rw [hmin] at hnum
      let M2 := sp_setI M1 98 (5 * cl.length + 3) (nI (nbT q n (nxt q n f)))
      have f2 : sp_fr [98] [] M1 M2 := sp_fr_I (Or.inl (by decide)) rfl
      have C2 : CR M2 q n (nxt q n f) true len lv (cl.length + 1) := by
        obtain ⟨d1, d2, d3, d4, d5, d6, d7, d8, d9, d10, d11⟩ := e3
        exact ⟨TXC_fr f2 d1 (by decide), ⟨d2.1, (f2.1 94 3 (by decide) (by decide)).trans d2.2.1, (f2.1 94 4 (by decide) (by decide)).trans d2.2.2.1, (f2.1 94 2 (by decide) (by decide)).trans d2.2.2.2⟩, d3, d4, (f2.1 97 3 (by decide) (by decide)).trans d5, (f2.1 97 2 (by decide) (by decide)).trans d6, (f2.1 96 6 (by decide) (by decide)).trans d7, (f2.1 96 7 (by decide) (by decide)).trans d8, d9, d10, d11⟩
      have hH : ∀ i, i ≠ 5 * cl.length + 3 → sp_I M2 98 i = sp_I M1 98 i := fun i hi => I_nf _ _ _ hi
      have e99 : sp_I M2 99 = sp_I M1 99 := I_ne _ _ _ (by decide)
      obtain ⟨l0, l1, l2, l3, l4⟩ := CLG_last hG1
      have G2 : CLG (nwO true) (sp_I M2 98) (sp_I M2 99) len (cl ++ [(c.1, c.2.1, c.2.2.1, nbT q n (nxt q n f), c.2.2.2.2)]) := by
        rw [e99]
        have C0 : CLG (nwO true) (sp_I M2 98) (sp_I M1 99) len cl := CLG_up (Nat.le_refl _) (fun _ _ => rfl) (fun i hi => hH i (by omega)) (CLG_init hG1)
        exact CLG_snoc C0 (by rw [hH _ (by omega)]; exact l0) (by rw [hH _ (by omega)]; exact l1) (by rw [hH _ (by omega)]; exact l2) (I_eq _ _ _ _) (by rw [hH _ (by omega)]; exact l4)
      obtain ⟨M3, b1, b2, b3⟩ := CR_next hF C2
      have G3 := CLG_fr b2 (by decide) G2
      refine StC_pre (((e2.mono (by decide) (by decide)).tr (f2.mono (by decide) (by decide))).tr (b2.mono (by decide) (by decide))) ?_ (ts_c (c := (c.1, c.2.1, c.2.2.1, nbT q n (nxt q n f), c.2.2.2.2)) hF b3 G3 hc)
      have ht : fX2_readTimes F M1 = some (1, M3) := by
        unfold fX2_readTimes
        rw [hnum, Option.bind_some, if_neg (by rw [w_in, nI_toInt (by omega), i1, i20]; omega), show fX9_setSlot M1 97 3 (nI (nbT q n (nxt q n f))) = some M2 from by
          have := slot_c (M := M1) (a := 3) (x := nI (nbT q n (nxt q n f))) e3.2.2.2.1 e3.2.2.2.2.2.1 (by omega) e3.2.2.2.2.2.2.2.2.2.1 (by omega)
          rw [show 5 * (cl.length + 1 - 1) + 3 = 5 * cl.length + 3 by omega] at this
          exact this, Option.bind_some, b1, Option.bind_some]
      rw [pre, ht, Option.bind_some]
      dsimp only
      rw [if_neg (by decide)]
    · rw [if_neg h5]
      refine StC_f ⟨M1, ?_, e2.mono (by decide) (by decide), e3.1, e3.2.1⟩
      have ht : fX2_readTimes F M1 = some (0, M1) := by
        unfold fX2_readTimes
        rw [hnum, Option.bind_some, if_pos]
        rw [w_in, i1, i20]
        by_cases z : tkS q n (nxt q n f) = 2
        · rw [if_pos z, nI_toInt (by omega)]
          have : nbT q n (nxt q n f) = nbN q (nxt q n f) (tkT q n (nxt q n f) - nxt q n f) := rfl
          intro w
          apply h5
          refine ⟨z, ?_, ?_⟩ <;> omega
        · rw [if_neg z]
          have : (-1 : Int32).toInt = -1 := rfl
          omega
      rw [pre, ht, Option.bind_some]
      dsimp only
      rw [if_pos rfl]
  · rw [if_neg hx]
    refine StC_pre (sp_fr.refl _ _ _) ?_ (ts_c hF h hG hc)
    unfold fX2_readOrder_j94
    rw [T.2 hx, Option.bind_some]
    dsimp only
    rw [if_pos rfl]
    rfl
theorem order_c (hF : 1000 ≤ F) (h : CR M q n f true len lv cl.length) (hG : CLG (nwO true) (sp_I M 98) (sp_I M 99) len cl) (h12 : cl.length < 12) : StC q n (fX2_readOrder F) (ordR q n f lv) true M cl := by
  unfold ordR
  cases hx : wdx q n f cs_2 with
  | none =>
    refine StC_f ⟨M, ?_, sp_fr.refl _ _ _, h.1, h.2.1⟩
    unfold fX2_readOrder
    rw [plc_2 hF h.1 h.2.1, Option.bind_some, hx]
    rfl
  | some j =>
    have hj : j < 4 := wdx_lt hx
    have hg := nxt_gt h.2.1.1 (show tkS q n f ≠ 0 by rw [wdx_S hx]; decide)
    have hl := h.2.2.2.2.2.2.2.2.2.2
    obtain ⟨M1, a1, a2, a3, a4⟩ := addC (j := j) h hG rfl h12
    obtain ⟨M2, b1, b2, b3⟩ := CR_next hF a3
    have hG2 := CLG_fr b2 (by decide) a4
    have f2 : cfr M M2 := (a2.mono (by decide) (by decide)).tr (b2.mono (by decide) (by decide))
    have pre : fX2_readOrder F M = (if nI j = 3 then (fX2_readOrder_j47 F (nI j) M2) else ((fX2_readValue F M2 1).bind fun x26 => if x26.1 = 0 then (some (0, x26.2)) else (fX2_readOrder_j47 F (nI j) x26.2))) := by
      unfold fX2_readOrder
      rw [plc_2 hF h.1 h.2.1, Option.bind_some, hx, show oN (some j) = nI j from rfl, if_neg (nI_m1 (by omega)), a1, Option.bind_some, b1, Option.bind_some]
    dsimp only
    by_cases h3 : j = 3
    · rw [if_pos h3]
      subst h3
      refine StC_pre f2 ?_ (tm_c (c := (3, none, none, 1, none)) hF b3 hG2 rfl)
      rw [pre]
      rfl
    · rw [if_neg h3]
      rw [if_neg (show ¬ nI j = 3 from fun w => h3 ((nIe (b := 3) (by omega) (by omega)).1 w))] at pre
      have V := val_g (base := 20) (a := 1) hF (Or.inl rfl) (Or.inl rfl) rfl b3 hG2 (by omega)
      cases hr : xr q n true 20 (nxt q n f) lv with
      | inl g1 =>
        obtain ⟨b, M', r1, r2, r3, r4, r5⟩ := V.1 g1 hr
        have hb : b = 0 := r5.resolve_right (fun w => absurd w.2.2 (by decide))
        subst hb
        refine StC_f ⟨M', ?_, f2.tr r2, r3, r4⟩
        rw [pre, show fX2_readValue F M2 1 = some (0, M') from r1, Option.bind_some]
        dsimp only
        rw [if_pos rfl]
      | inr y =>
        obtain ⟨g1, lv1, v1⟩ := y
        obtain ⟨M3, len3, r1, r2, r3, r4, _⟩ := V.2 g1 lv1 v1 hr
        have r4 : CLG (nwO true) (sp_I M3 98) (sp_I M3 99) len3 (cl ++ [(j, some v1, none, 1, none)]) := r4
        have pre3 : fX2_readOrder F M = fX2_readOrder_j47 F (nI j) M3 := by
          rw [pre, show fX2_readValue F M2 1 = some (1, M3) from r1, Option.bind_some]
          dsimp only
          rw [if_neg (by decide)]
        dsimp only
        by_cases h1 : j = 1
        · rw [if_pos h1]
          subst h1
          refine StC_pre (f2.tr r2) ?_ (tm_c (c := (1, some v1, none, 1, none)) hF r3 r4 rfl)
          rw [pre3]
          rfl
        · rw [if_neg h1]
          have j02 : j = 0 ∨ j = 2 := by omega
          have two : ∀ (o : Nat) (cs : List Int64) (X : sp_Mem → Option (Int32 × sp_Mem)), fX8_placeIn F M3 o = some (oN (wdx q n g1 cs)) → (wdx q n g1 cs = some 0 ∨ wdx q n g1 cs = none) → fX2_readOrder_j47 F (nI j) M3 = ((fX2_takes F M3 o).bind fun x18 => if x18.1 = 0 then (some (0, x18.2)) else ((fX2_readValue F x18.2 2).bind fun x20 => if x20.1 = 0 then (some (0, x20.2)) else (fX2_readOrder_j94 F x20.2))) → StC q n (fX2_readOrder F) (if wdx q n g1 cs = some 0 then (match xr q n true 20 (nxt q n g1) lv1 with
              | .inl g2 => .inl g2
              | .inr (g2, lv2, w) => tmR q n g2 lv2 (j, some v1, some w, 1, none)) else .inl g1) true M cl := by
            intro o cs X hp hw he
            have T := takes_c (o := o) (cs := cs) hF r3 hp hw
            by_cases hx2 : wdx q n g1 cs = some 0
            · rw [if_pos hx2]
              obtain ⟨M4, s1, s2, s3, s4⟩ := T.1 hx2
              have hG4 := CLG_fr s2 (by decide) r4
              have V2 := val_g (base := 20) (a := 2) hF (Or.inl rfl) (Or.inr (Or.inl rfl)) rfl s3 hG4 (by have := r3.2.2.2.2.2.2.2.2.2.2; omega)
              have pre4 : fX2_readOrder F M = ((fX2_readValue F M4 2).bind fun x20 => if x20.1 = 0 then (some (0, x20.2)) else (fX2_readOrder_j94 F x20.2)) := by
                rw [pre3, he, s1, Option.bind_some]
                dsimp only
                rw [if_neg (by decide)]
              have f4 : cfr M M4 := (f2.tr r2).tr (s2.mono (by decide) (by decide))
              cases hr2 : xr q n true 20 (nxt q n g1) lv1 with
              | inl g2 =>
                obtain ⟨b, M', t1, t2, t3, t4, t5⟩ := V2.1 g2 hr2
                have hb : b = 0 := t5.resolve_right (fun w => absurd w.2.2 (by decide))
                subst hb
                refine StC_f ⟨M', ?_, f4.tr t2, t3, t4⟩
                rw [pre4, show fX2_readValue F M4 2 = some (0, M') from t1, Option.bind_some]
                dsimp only
                rw [if_pos rfl]
              | inr y2 =>
                obtain ⟨g2, lv2, w2⟩ := y2
                obtain ⟨M5, len5, t1, t2, t3, t4, _⟩ := V2.2 g2 lv2 w2 hr2
                refine StC_pre (f4.tr t2) ?_ (tm_c (c := (j, some v1, some w2, 1, none)) hF t3 t4 rfl)
                rw [pre4, show fX2_readValue F M4 2 = some (1, M5) from t1, Option.bind_some]
                dsimp only
                rw [if_neg (by decide)]
            · rw [if_neg hx2]
              refine StC_f ⟨M3, ?_, f2.tr r2, r3.1, r3.2.1⟩
              rw [pre3, he, T.2 hx2, Option.bind_some]
              dsimp only
              rw [if_pos rfl]
          rcases j02 with e | e
          · subst e
            exact two 3 cs_3 (fun _ => none) (plc_3 hF r3.1 r3.2.1) (wdx1 _) rfl
          · subst e
            exact two 4 cs_4 (fun _ => none) (plc_4 hF r3.1 r3.2.1) (wdx1 _) rfl
end LText2
