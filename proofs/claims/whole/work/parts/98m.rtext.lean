/-! ===== texts: the reference's clauses ===== -/
theorem xrun_2 {q : Nat → Nat} {n : Nat} {ord : Bool} : ∀ (m : Nat) (st : StE ⊕ StB), (xrun q n ord m st).1 = 0 ∨ (xrun q n ord m st).1 = 1 ∨ sg q n (xrun q n ord m st).2.1 41 = true
  | 0, .inl s => Or.inl rfl
  | 0, .inr s => Or.inl rfl
  | m + 1, .inl s => by
    rw [xrun]
    cases hE : stE q n ord s with
    | inl f => exact Or.inl rfl
    | inr t => exact xrun_2 m t
  | m + 1, .inr s => by
    rw [xrun]
    cases hE : stB q n s with
    | inl o =>
      show o.1 = 0 ∨ o.1 = 1 ∨ sg q n s.1 41 = true
      unfold stB at hE
      dsimp only at hE
      by_cases c1 : 5 ≤ bnd (jnK q n s.1) ∧ s.2.2.2.1 = false
      · rw [if_pos c1] at hE; cases hE
      rw [if_neg c1] at hE
      by_cases c2 : bnd (jnK q n s.1) = 4 ∧ s.2.2.2.1 = false ∧ cTB (tpk (fo 5 s.2.1 s.2.2.1).1) = true
      · rw [if_pos c2] at hE; cases hE
      rw [if_neg c2] at hE
      by_cases c3 : (bnd (jnK q n s.1) = 1 ∨ bnd (jnK q n s.1) = 2) ∧ (s.2.2.2.1 = true ∨ bnd (tpk (fo 5 s.2.1 s.2.2.1).1) = 4)
      · rw [if_pos c3] at hE; cases hE
      rw [if_neg c3] at hE
      by_cases c4 : sg q n s.1 41 = true ∧ (s.2.2.2.1 = true ∨ bnd (tpk (fo 5 s.2.1 s.2.2.1).1) = 4)
      · exact Or.inr (Or.inr c4.1)
      rw [if_neg c4] at hE
      by_cases c6 : sg q n s.1 93 = true ∧ tpk (fo 5 s.2.1 s.2.2.1).1 = 22
      · rw [if_pos c6] at hE; cases hE
      rw [if_neg c6] at hE
      by_cases c7 : tpk (fo 5 s.2.1 s.2.2.1).1 = 20
      · rw [if_pos c7] at hE; cases hE; exact Or.inr (Or.inl rfl)
      rw [if_neg c7] at hE
      by_cases c8 : s.2.2.2.1 = true ∨ bnd (tpk (fo 5 s.2.1 s.2.2.1).1) = 4
      · rw [if_pos c8] at hE
        by_cases c9 : tpk (fo 1 (fo 5 s.2.1 s.2.2.1).1 (fo 5 s.2.1 s.2.2.1).2).1 = 21
        · rw [if_pos c9] at hE; cases hE; exact Or.inr (Or.inl rfl)
        · rw [if_neg c9] at hE; cases hE; exact Or.inl rfl
      · rw [if_neg c8] at hE; cases hE; exact Or.inl rfl
    | inr t => exact xrun_2 m t
/-- the reference fails at g, or will: it stands before a bracket that closes nothing -/
def BD (M : sp_Mem) (q : Nat → Nat) (n g : Nat) : Prop := TXR M q n ∧ i_C M ∧ ((sp_I M 103 19 = 1 ∧ sp_I M 103 18 = nI g) ∨ (sp_I M 103 19 = 0 ∧ TKR M q n g ∧ sg q n g 41 = true))
abbrev tfr (M M' : sp_Mem) : Prop := sp_fr [113, 114, 115, 116, 117, 130] [(103, 14), (103, 15), (103, 16), (103, 17), (103, 18), (103, 19), (103, 21), (103, 23), (103, 26), (103, 29), (103, 30)] M M'
theorem BD_fr {M M' : sp_Mem} {q : Nat → Nat} {n g : Nat} {A : List Nat} {B : List (Nat × Nat)} (hf : sp_fr A B M M') (hd : dj [112, 118, 119, 120, 129] [(103, 13), (103, 14), (103, 15), (103, 16), (103, 17), (103, 18), (103, 19), (77, 2), (77, 3)] A B = true) (h : BD M q n g) : BD M' q n g := by
  obtain ⟨h1, h2, h3⟩ := h
  refine ⟨TXR_fr hf h1 (dj_sub (by decide) (by decide) hd), i_C_fr hf (dj_sub (by decide) (by decide) hd) h2, ?_⟩
  have e19 := fr_B hf hd 103 19 (by decide)
  have e18 := fr_B hf hd 103 18 (by decide)
  rcases h3 with ⟨a, b⟩ | ⟨a, b, c⟩
  · exact Or.inl ⟨e19.trans a, e18.trans b⟩
  · exact Or.inr ⟨e19.trans a, TKR_fr hf b (dj_sub (by decide) (by decide) hd), c⟩
theorem RR_fr {M M' : sp_Mem} {q : Nat → Nat} {n f len lv nc : Nat} {ord : Bool} {A : List Nat} {B : List (Nat × Nat)} (hf : sp_fr A B M M') (hd : dj [112, 118, 119, 120, 129] [(103, 13), (103, 14), (103, 15), (103, 16), (103, 17), (103, 18), (103, 19), (103, 20), (103, 21), (103, 23), (103, 26), (77, 2), (77, 3)] A B = true) (h : RR M q n f ord len lv nc) : RR M' q n f ord len lv nc := by
  obtain ⟨h1, h2, h3, h4, h5, h6, h7, h8, h9⟩ := h
  exact ⟨TXR_fr hf h1 (dj_sub (by decide) (by decide) hd), TKR_fr hf h2 (dj_sub (by decide) (by decide) hd), (fr_B hf hd 103 23 (by decide)).trans h3, (fr_B hf hd 103 21 (by decide)).trans h4, (fr_B hf hd 103 26 (by decide)).trans h5, (fr_B hf hd 103 20 (by decide)).trans h6, (fr_B hf hd 103 19 (by decide)).trans h7, i8_fr hf (dj_sub (by decide) (by decide) hd) h8, h9⟩
theorem rcM_fr {M M' : sp_Mem} {o : Int32} {len : Nat} {A : List Nat} {B : List (Nat × Nat)} (hf : sp_fr A B M M') (hd : dj [114, 115] [] A B = true) : rcM M' o len = rcM M o len := by
  unfold rcM
  rw [fr_A hf hd 114 (by decide), fr_A hf hd 115 (by decide)]
section RText
variable {F n f len lv nc : Nat} {q : Nat → Nat} {ord : Bool} {M : sp_Mem}
theorem vr_r {base : Nat} (hF : 2000 ≤ F) (hB : base = 20 ∨ base = 21) (h : RR M q n f ord len lv nc) :
  (∀ g, xr q n ord base f lv = .inl g → ∃ M', fX11_readExpression F M (bI (decide (base = 21))) = some M' ∧ yfr M M' ∧ BD M' q n g) ∧
  (∀ g lv' v, xr q n ord base f lv = .inr (g, lv', v) → ∃ M' len', fX11_readExpression F M (bI (decide (base = 21))) = some M' ∧ yfr M M' ∧ RR M' q n g ord len' lv' nc ∧ (∀ i, i < len → rcM M' (bI ord) len' i = rcM M (bI ord) len i) ∧ len ≤ len' ∧ ∃ t, t ≤ 50 ∧ ev_Seg (nwO ord) (rcM M' (bI ord) len') len len' v t) := by
  obtain ⟨M', e1, e2, o1, o2, o3, o4⟩ := val_r hF hB h
  unfold xr
  by_cases z : (xo q n ord base f lv).1 = 1
  · rw [if_pos z]
    refine ⟨fun g e => (by cases e), fun g lv' v e => ?_⟩
    cases e
    obtain ⟨t1, t2, t0, t, t3, t4, t5, t6, len', t7, t8, t9, t10⟩ := o4 (by omega)
    have hll : len < len' := t9.1
    exact ⟨M', len', e1, e2, ⟨o1, t1, t8, (e2.1 103 21 (by decide) (by decide)).trans h.2.2.2.1, t5, t6, t2, t0, t4, h.2.2.2.2.2.2.2.2.2.1, t7⟩, t10, by omega, t, by omega, t9⟩
  · rw [if_neg z]
    refine ⟨fun g e => ?_, fun g lv' v e => (by cases e)⟩
    cases e
    refine ⟨M', e1, e2, o1, o2, ?_⟩
    by_cases y : (xo q n ord base f lv).1 = 0
    · exact Or.inl (o3 y)
    · obtain ⟨t1, t2, _⟩ := o4 y
      exact Or.inr ⟨t2, t1, ((xrun_2 402 (.inl (f, [(base, zS)], lv, 0))).resolve_left y).resolve_left z⟩
theorem RR_next (hF : 1000 ≤ F) (h : RR M q n f ord len lv nc) : ∃ M', fX11_next F M = some M' ∧ sp_fr [] [(103, 14), (103, 15), (103, 16), (103, 17)] M M' ∧ RR M' q n (nxt q n f) ord len lv nc := by
  obtain ⟨hT, hK, h23, h21, h26, h20, h19, hC, hlv, hnc, hlen⟩ := h
  have hg := tkT_b (q := q) hK.1
  have hg2 := tkF_b (q := q) hg.2
  obtain ⟨M', e1, e2, e3, e4⟩ := next_r hF hT hg.2 hK.2.2.1
  exact ⟨M', e1, e2, e3, e4, (e2.1 103 23 (by decide) (by decide)).trans h23, (e2.1 103 21 (by decide) (by decide)).trans h21, (e2.1 103 26 (by decide) (by decide)).trans h26, (e2.1 103 20 (by decide) (by decide)).trans h20, (e2.1 103 19 (by decide) (by decide)).trans h19, i8_fr e2 (by decide) hC, hlv, hnc, by unfold nxt; omega⟩
/-- a token that must not stand here -/
theorem mf_r (hT : TXR M q n) (hK : TKR M q n f) (h19 : sp_I M 103 19 = 0) (hC : i_C M) : ∃ M', fX11_must F M 0 = some M' ∧ sp_fr [] [(103, 18), (103, 19)] M M' ∧ TXR M' q n ∧ i_C M' ∧ sp_I M' 103 19 = 1 ∧ sp_I M' 103 18 = nI f := by
  let M1 := sp_setI M 103 19 1
  let M2 := sp_setI M1 103 18 (sp_I M1 103 14)
  have f2 : sp_fr [] [(103, 18), (103, 19)] M M2 := (sp_fr_I (Or.inr (by decide)) rfl).tr (sp_fr_I (Or.inr (by decide)) rfl)
  have e19 : sp_I M2 103 19 = 1 := (I_nf _ _ _ (by decide)).trans (I_eq _ _ _ _)
  have e18 : sp_I M2 103 18 = nI f := (I_eq _ _ _ _).trans ((I_nf _ _ _ (by decide)).trans hK.2.1)
  refine ⟨M2, ?_, f2, TXR_fr f2 hT (by decide), i_C_fr f2 (by decide) hC, e19, e18⟩
  unfold fX11_must
  rw [if_pos h19, if_pos rfl]
  simp only [sp_do]
  rw [if_neg (show ¬ sp_I (sp_setI (sp_setI M 103 19 1) 103 18 (sp_I (sp_setI M 103 19 1) 103 14)) 103 19 = 0 by rw [show sp_I (sp_setI (sp_setI M 103 19 1) 103 18 (sp_I (sp_setI M 103 19 1) 103 14)) 103 19 = 1 from e19]; decide)]
theorem isw_1 {a : Int64} (hT : TXR M q n) (hK : TKR M q n f) : (wdx q n f [a] = some 0 → ¬ fX11_isWord M a = 0) ∧ (¬ wdx q n f [a] = some 0 → fX11_isWord M a = 0) := by
  have e : (wdx q n f [a] = some 0) ↔ isP q n f a = true := by
    rw [wdx_e, fnd, fnd]
    by_cases z : isP q n f a = true
    · rw [if_pos z]; exact ⟨fun _ => z, fun _ => rfl⟩
    · rw [if_neg z]; exact ⟨fun w => (by cases w), fun w => (z w).elim⟩
  exact ⟨fun z w => ((isWb (F := 0) hT hK _).1 w) (e.1 z), fun z => (isWb (F := 0) hT hK _).2 (fun w => z (e.2 w))⟩
theorem sg_w {b : Nat} (h : sg q n f b = true) (cs : List Int64) : ¬ wdx q n f cs = some 0 := by
  rw [wdx_sg cs (by rw [(sg_S h).1]; decide)]
  intro z
  cases z
end RText
