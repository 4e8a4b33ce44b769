/-! ===== expressions: the reference's step follows the machine ===== -/
section YStb2
variable {p0 : PP} {F n f nw t lv br base : Nat} {q : Nat → Nat} {ord td : Bool} {M : sp_Mem} {B : Sk} {v : ev_S}
def stN (td : Bool) : Int32 := if td = true then 2 else 3
theorem bnd_12k : ∀ k, k < 14 → ((bnd k = 1 ∨ bnd k = 2) ↔ (k = 12 ∨ k = 13)) := by decide +kernel
theorem ystb_r {kx : sp_Mem → Option sp_Mem} {kf : Nat} (hF : 1000 ≤ F) (hB : base = 20 ∨ base = 21) (hbr : br ≤ 8) (h : BR M q n f ord nw p0 base B v td t lv br) :
  (∀ o, stB q n (f, cnc base B, v, td, lv, br) = .inl o → (o.1 = 0 → ∃ M', fX11_readExpression_l20 F kx (kf + 4) (bI (decide (base = 21))) (stN td) M = kx M' ∧ yfr M M' ∧ FS M' q n f) ∧ (o.1 ≠ 0 → fX11_readExpression_l20 F kx (kf + 4) (bI (decide (base = 21))) (stN td) M = kx M ∧ Fok 1 B v ∧ (fo 1 (cnc base B) v).2 = o.2 ∧ (tpk (fo 1 (cnc base B) v).1 = 20 ∨ tpk (fo 1 (cnc base B) v).1 = 21))) ∧
  (∀ s, stB q n (f, cnc base B, v, td, lv, br) = .inr (.inl s) → ∃ M' B' k', kf + 2 ≤ k' ∧ fX11_readExpression_l20 F kx (kf + 4) (bI (decide (base = 21))) (stN td) M = fX11_readExpression_l20 F kx k' (bI (decide (base = 21))) (rsE s.2.1) M' ∧ yfr M M' ∧ cnc base B' = s.2.1 ∧ ER M' q n s.1 ord nw p0 base B' t s.2.2.1 s.2.2.2) ∧
  (∀ s, stB q n (f, cnc base B, v, td, lv, br) = .inr (.inr s) → ∃ M' B' k', kf + 2 ≤ k' ∧ fX11_readExpression_l20 F kx (kf + 4) (bI (decide (base = 21))) (stN td) M = fX11_readExpression_l20 F kx k' (bI (decide (base = 21))) (stN s.2.2.2.1) M' ∧ yfr M M' ∧ cnc base B' = s.2.1 ∧ BR M' q n s.1 ord nw p0 base B' s.2.2.1 s.2.2.2.1 t s.2.2.2.2.1 s.2.2.2.2.2) := by
  obtain ⟨hTx, hTk, h19, hWB, hw, hL⟩ := BR_Y h
  have h0 := b0 hB
  have hk14 := jnK_lt (q := q) (n := n) (f := f)
  have hb3 := jnK_3n _ hk14 jnK_11
  have W := fo_wf (b := 5) (by omega) h0 (cnc base B) br v hw
  have FC := fo_cnc (b := 5) (by omega) hB B v hWB
  have i5 : inn (fo 5 (cnc base B) v).1 = inn B := (inn_fo (by omega) _ _).trans (inn_cnc hB B)
  have T22 := top_22 hB (cnc base B) br v hw
  rw [inn_cnc hB B] at T22
  have i3 := ic_0 _ (inn_3 B)
  have f12 : fo 1 (fo 5 (cnc base B) v).1 (fo 5 (cnc base B) v).2 = fo 1 (cnc base B) v := fo_2 (by omega) _ _
  have htd : td = true → ev_T v ∧ cTB (tpk (cnc base B)) = true := by
    obtain ⟨Bi, p, len, m, nn, rfl, hY, hS, ht, hWB, hw, hL, htd⟩ := h
    exact htd
  have r3 : ∀ {k : Nat} {x : Int32 × sp_Mem}, fX11_behindSum F M (bI (decide (base = 21))) = some x → fX11_readExpression_l20 F kx (k + 1) (bI (decide (base = 21))) 3 M = fX11_readExpression_l20 F kx k (bI (decide (base = 21))) x.1 x.2 := by
    intro k x hx
    rw [fX11_readExpression_l20, if_pos h19, if_neg (by decide), if_neg (by decide), if_neg (by decide), if_pos rfl, hx, Option.bind_some]
  -- where a test lies behind, the reference comes to its state 2
  have toT : (td = true ∨ bnd (tpk (fo 5 (cnc base B) v).1) = 4) → (td = false → ¬ 5 ≤ bnd (jnK q n f)) → ∃ k', kf + 1 ≤ k' ∧ fX11_readExpression_l20 F kx (kf + 4) (bI (decide (base = 21))) (stN td) M = fX11_readExpression_l20 F kx (k' + 2) (bI (decide (base = 21))) 2 M := by
    intro hT hn5
    cases td with
    | true => exact ⟨kf + 2, by omega, rfl⟩
    | false =>
      have h4 : bnd (tpk (fo 5 (cnc base B) v).1) = 4 := hT.resolve_left (by decide)
      refine ⟨kf + 1, Nat.le_refl _, ?_⟩
      have n22 : inn B ≠ 22 := fun z => by
        have := T22.1 z
        rw [this] at h4
        exact absurd h4 (by decide)
      have hc : fX11_behindSum F M (bI (decide (base = 21))) = some (2, M) := by
        rw [bs_2 hF h (hn5 rfl), if_neg (fun w => n22 (i3.2.1 w)), j163_c hF hB h h4]
        by_cases z : ic (inn B) = -1
        · rw [if_pos z, if_neg]
          intro w
          have hb : base = 20 := by
            rcases hB with e | e
            · exact e
            · rw [e] at w; exact absurd w (by decide)
          have := T22.2 (i3.1.1 z) hb
          rw [this] at h4
          exact absurd h4 (by decide)
        · rw [if_neg z]
      exact r3 hc
  have failS : (∃ M', fX11_behindSum F M (bI (decide (base = 21))) = some ((3 : Int32), M') ∧ yfr M M' ∧ FS M' q n f) ∨ (∃ M', fX11_behindSum F M (bI (decide (base = 21))) = some ((1 : Int32), M') ∧ yfr M M' ∧ FS M' q n f) → td = false → ∃ M', fX11_readExpression_l20 F kx (kf + 4) (bI (decide (base = 21))) (stN td) M = kx M' ∧ yfr M M' ∧ FS M' q n f := by
    intro hx z
    rw [z]
    rcases hx with ⟨M', e1, e2, e3⟩ | ⟨M', e1, e2, e3⟩
    · exact ⟨M', (r3 e1).trans (rd_f e3), e2, e3⟩
    · exact ⟨M', (r3 e1).trans (rd_f e3), e2, e3⟩
  unfold stB
  dsimp only
  by_cases c1 : 5 ≤ bnd (jnK q n f) ∧ td = false
  · rw [if_pos c1]
    refine ⟨fun o e => (by cases e), fun s e => ?_, fun s e => (by cases e)⟩
    cases e
    obtain ⟨hu, rfl⟩ := c1
    obtain ⟨M', B', e1, e2, e3, e4⟩ := bs_1 (a1 := bI (decide (base = 21))) hF hB h hu
    refine ⟨M', B', kf + 3, by omega, ?_, e2, e3, e4⟩
    refine (r3 e1).trans ?_
    have hk := bnd_5 _ hk14 hu
    have : rsE ((jnK q n f, (fo (bnd (jnK q n f)) (cnc base B) v).2) :: (fo (bnd (jnK q n f)) (cnc base B) v).1) = 1 := by
      unfold rsE
      refine if_neg fun z => ?_
      have z : cTB (jnK q n f) = true := z
      have := cTB_3 z
      omega
    rw [this]
  rw [if_neg c1]
  by_cases c2 : bnd (jnK q n f) = 4 ∧ td = false ∧ cTB (tpk (fo 5 (cnc base B) v).1) = true
  · rw [if_pos c2]
    refine ⟨fun o e => (by cases e), fun s e => ?_, fun s e => (by cases e)⟩
    cases e
    obtain ⟨hu, rfl, hc⟩ := c2
    have c3 := cTB_3 hc
    have n22 : inn B ≠ 22 := fun z => by
      have := T22.1 z
      rw [this] at hc
      exact absurd hc (by decide)
    obtain ⟨M', B', e1, e2, e3, e4⟩ := j224_y hF hB h hu hc
    refine ⟨M', B', kf + 3, by omega, ?_, e2, e3, e4⟩
    have hcall : fX11_behindSum F M (bI (decide (base = 21))) = some (1, M') := by
      rw [bs_2 hF h (by omega), if_neg (fun w => n22 (i3.2.1 w)), (j163_p hF hB h (by omega)).1 hu, e1]
      by_cases z : ic (inn B) = -1
      · rw [if_pos z, if_neg]
        intro w
        have hb : base = 20 := by
          rcases hB with e | e
          · exact e
          · rw [e] at w; exact absurd w (by decide)
        have := T22.2 (i3.1.1 z) hb
        rw [this] at hc
        exact absurd hc (by decide)
      · rw [if_neg z]
    refine (r3 hcall).trans ?_
    have : rsE ((jnK q n f, (fo 5 (cnc base B) v).2) :: (fo 5 (cnc base B) v).1) = 1 := by
      unfold rsE
      refine if_neg fun z => ?_
      have z : cTB (jnK q n f) = true := z
      have := cTB_3 z
      omega
    rw [this]
  rw [if_neg c2]
  have n5 : td = false → ¬ 5 ≤ bnd (jnK q n f) := fun z w => c1 ⟨w, z⟩
  by_cases c3 : (bnd (jnK q n f) = 1 ∨ bnd (jnK q n f) = 2) ∧ (td = true ∨ bnd (tpk (fo 5 (cnc base B) v).1) = 4)
  · rw [if_pos c3]
    refine ⟨fun o e => (by cases e), fun s e => ?_, fun s e => (by cases e)⟩
    cases e
    have hk := (bnd_12k _ hk14).1 c3.1
    obtain ⟨k', hk', e0⟩ := toT c3.2 n5
    obtain ⟨M', B', e1, e2, e3, e4⟩ := (tl_r (kx := kx) (kf := k') (a1 := bI (decide (base = 21))) hF hB hbr h c3.2).1 hk
    refine ⟨M', B', k' + 1, by omega, ?_, e2, ?_, e4⟩
    · rw [e0, e1]
      have : rsE ((jnK q n f, (fo (bnd (jnK q n f)) (fo 5 (cnc base B) v).1 (fo 5 (cnc base B) v).2).2) :: (fo (bnd (jnK q n f)) (fo 5 (cnc base B) v).1 (fo 5 (cnc base B) v).2).1) = 0 := by
        unfold rsE
        refine if_pos ?_
        show cTB (jnK q n f) = true
        exact cTB_b (by omega)
      rw [this]
    · rw [e3]
      have : bnd (jnK q n f) ≤ 5 := by omega
      rw [fo_2 this]
  rw [if_neg c3]
  by_cases c4 : sg q n f 41 = true ∧ (td = true ∨ bnd (tpk (fo 5 (cnc base B) v).1) = 4)
  · rw [if_pos c4, f12]
    have hk : ¬ (jnK q n f = 12 ∨ jnK q n f = 13) := fun z => by
      rw [jk_of c4.1] at z
      exact absurd z (by decide)
    obtain ⟨k', hk', e0⟩ := toT c4.2 n5
    have L := tl_r (kx := kx) (kf := k') (a1 := bI (decide (base = 21))) hF hB hbr h c4.2
    by_cases c5 : tpk (fo 1 (cnc base B) v).1 = 23
    · rw [if_pos c5]
      refine ⟨fun o e => (by cases e), fun s e => (by cases e), fun s e => ?_⟩
      cases e
      obtain ⟨M', B', e1, e2, e3, e4⟩ := L.2.1 hk c4.1 c5
      exact ⟨M', B', k' + 1, by omega, by rw [e0, e1]; rfl, e2, e3, e4⟩
    · rw [if_neg c5]
      refine ⟨fun o e => ?_, fun s e => (by cases e), fun s e => (by cases e)⟩
      cases e
      have h21 : tpk (fo 1 (cnc base B) v).1 = 21 := L.2.2.2.2.resolve_right c5
      refine ⟨fun z => (by cases z), fun _ => ⟨by rw [e0, L.2.2.1 hk h21], (Fok_y (by omega) (by omega) hB h c4.2).1, rfl, Or.inr h21⟩⟩
  rw [if_neg c4]
  have n22 : ∀ {k : Nat}, tpk (fo 5 (cnc base B) v).1 = k → k = 20 ∨ k = 22 → td = false := by
    intro k e hk
    cases td with
    | false => rfl
    | true =>
      exfalso
      have t := (htd rfl).2
      have t3 := cTB_3 t
      rw [fo_id (show bnd (tpk (cnc base B)) < 5 by omega)] at e
      have e : tpk (cnc base B) = k := e
      rw [e] at t
      rcases hk with rfl | rfl
      · exact absurd t (by decide)
      · exact absurd t (by decide)
  by_cases c6 : sg q n f 93 = true ∧ tpk (fo 5 (cnc base B) v).1 = 22
  · rw [if_pos c6]
    refine ⟨fun o e => (by cases e), fun s e => (by cases e), fun s e => ?_⟩
    cases e
    have ht := n22 c6.2 (Or.inr rfl)
    subst ht
    have hi : inn B = 22 := by
      rw [← i5]
      cases hc : (fo 5 (cnc base B) v).1 with
      | nil => rw [hc] at W; exact W.1.elim
      | cons x A =>
        have e : x.1 = 22 := by rw [← c6.2, hc]; rfl
        show (if x.1 = 22 ∨ x.1 = 23 then x.1 else _) = 22
        rw [if_pos (Or.inl e), e]
    have htop : tpk (cnc base (fo 5 B v).1) = 22 := by
      have := c6.2
      rw [FC] at this
      exact this
    have hn : tpk (fo 5 B v).1 ≠ 11 := by
      intro z
      cases hc : (fo 5 B v).1 with
      | nil => rw [hc] at z; cases z
      | cons x B1 =>
        rw [hc] at z htop
        have z : x.1 = 11 := z
        have hWB1 : WB base (x :: B1) := by rw [← hc]; exact WB_s hWB (fo_suf _ _)
        by_cases c : x.1 = 11 ∧ tpk (cnc base B1) = 11
        · obtain ⟨g, hg⟩ := cnc_top c.2
          obtain ⟨br1, W1⟩ := hWB1 B1 (List.suffix_cons _ _)
          rw [hg] at W1
          have := (WFk_11 hB W1).2.2.1
          rw [cnc_1 c] at htop
          rw [htop] at this
          exact absurd this (by decide)
        · rw [cnc_2 c] at htop
          have htop : x.1 = 22 := htop
          omega
    obtain ⟨M1, M2, M3, e1, e2, e3, e4, e5, e6, e7⟩ := cl_y (b := 5) (kk := 22) (tq := false) hF hB hbr h (by rw [(sg_S c6.1).1]; decide) (by omega) (by omega) (Or.inl rfl) (Fok_4 (by omega) _ _) htop hn (fun z => (by cases z))
    refine ⟨M3, (fo 5 B v).1.tail, kf + 3, by omega, ?_, e5, ?_, ?_⟩
    · have hc : fX11_behindSum F M (bI (decide (base = 21))) = some (3, M3) := by
        rw [bs_2 hF h (n5 rfl), if_pos (i3.2.2 hi), show fX11_isSign M 93 = bI (sg q n f 93) from sgb_r hTx hTk (b := 93) (by omega), c6.1, show bI true = 1 from rfl, e1, Option.bind_some, if_pos e2, show fX11_settle F M1 5 = some M2 from e3, Option.bind_some, e4]
      exact r3 hc
    · rw [e7, FC]
    · rw [FC]; exact e6
  rw [if_neg c6]
  by_cases c7 : tpk (fo 5 (cnc base B) v).1 = 20
  · rw [if_pos c7]
    refine ⟨fun o e => ?_, fun s e => (by cases e), fun s e => (by cases e)⟩
    cases e
    have ht := n22 c7 (Or.inl rfl)
    subst ht
    obtain ⟨x, hx⟩ := WFk_b W.1 (Or.inl c7)
    have W1 := W.1
    rw [hx] at W1 c7 i5
    have hx20 : x.1 = 20 := c7
    have hb20 : base = 20 := by rw [← hx20]; exact W1.1.symm
    have hi : inn B = 0 := by
      rw [← i5]
      exact inn_p (k := x.1) (g := x.2) (by omega)
    have hc : fX11_behindSum F M (bI (decide (base = 21))) = some (4, M) := by
      rw [bs_2 hF h (n5 rfl), if_neg (fun w => by have := i3.2.1 w; omega), if_pos (i3.1.2 hi), if_pos (by rw [hb20]; rfl)]
    have F1 : fo 1 (cnc base B) v = fo 5 (cnc base B) v := by
      rw [← f12, fo_id]
      rw [hx]
      show bnd x.1 < 1
      rw [hx20]
      decide
    refine ⟨fun z => (by cases z), fun _ => ⟨?_, ?_, by rw [F1], Or.inl (by rw [F1, hx]; exact hx20)⟩⟩
    · refine (r3 hc).trans ?_
      dsimp only
      rw [fX11_readExpression_l20, if_pos h19, if_pos rfl]
    · have comp : ∀ (B : Sk) (v : ev_S), Fok 1 (fo 5 B v).1 (fo 5 B v).2 → Fok 1 B v := by
        intro B
        induction B with
        | nil => intro v _; exact trivial
        | cons y B ih =>
          intro v hf
          obtain ⟨k, g⟩ := y
          by_cases hb : bnd k < 5
          · rw [show fo 5 ((k, g) :: B) v = ((k, g) :: B, v) from if_pos hb] at hf
            exact hf
          · rw [show fo 5 ((k, g) :: B) v = fo 5 B (xpp k g v) from if_neg hb] at hf
            refine Or.inr ⟨fun z => ?_, ih _ hf⟩
            have := bnd_4 z
            omega
      refine comp B v ?_
      have hnil : (fo 5 B v).1 = [] := by
        have hcn : cnc base (fo 5 B v).1 = [x] := by rw [← hx, FC]
        cases hc2 : (fo 5 B v).1 with
        | nil => rfl
        | cons y B1 =>
          exfalso
          rw [hc2] at hcn
          have hWB1 : WB base (y :: B1) := by rw [← hc2]; exact WB_s hWB (fo_suf _ _)
          by_cases c : y.1 = 11 ∧ tpk (cnc base B1) = 11
          · obtain ⟨g, hg⟩ := cnc_top c.2
            obtain ⟨br1, W1⟩ := hWB1 B1 (List.suffix_cons _ _)
            rw [hg] at W1
            have := (WFk_11 hB W1).2.2.1
            rw [cnc_1 c] at hcn
            rw [hcn] at this
            have this : cTB x.1 = true := this
            rw [hx20] at this
            exact absurd this (by decide)
          · rw [cnc_2 c] at hcn
            injection hcn with h1 h2
            have hy : y.1 = 20 := by rw [h1]; exact hx20
            obtain ⟨Bi, p, len, m, nn, rfl, hY, _⟩ := h
            have hmem : y ∈ drp Bi := (fo_suf (b := 5) (drp Bi) v).subset (by rw [hc2]; simp)
            have := SKR_ok Bi hY.2.2.1.2.2.2.2.1 y hmem
            unfold okK at this
            omega
      rw [hnil]
      exact trivial
  rw [if_neg c7]
  by_cases c8 : td = true ∨ bnd (tpk (fo 5 (cnc base B) v).1) = 4
  · rw [if_pos c8, f12]
    have hk : ¬ (jnK q n f = 12 ∨ jnK q n f = 13) := fun z => c3 ⟨(bnd_12k _ hk14).2 z, c8⟩
    have hs : sg q n f 41 = false := Bool.eq_false_iff.2 fun z => c4 ⟨z, c8⟩
    obtain ⟨k', hk', e0⟩ := toT c8 n5
    have L := tl_r (kx := kx) (kf := k') (a1 := bI (decide (base = 21))) hF hB hbr h c8
    by_cases c9 : tpk (fo 1 (cnc base B) v).1 = 21
    · rw [if_pos c9]
      refine ⟨fun o e => ?_, fun s e => (by cases e), fun s e => (by cases e)⟩
      cases e
      refine ⟨fun z => (by cases z), fun _ => ⟨by rw [e0, L.2.2.1 hk c9], (Fok_y (by omega) (by omega) hB h c8).1, rfl, Or.inr c9⟩⟩
    · rw [if_neg c9]
      refine ⟨fun o e => ?_, fun s e => (by cases e), fun s e => (by cases e)⟩
      cases e
      obtain ⟨M', e1, e2, e3⟩ := L.2.2.2.1 hk hs (L.2.2.2.2.resolve_left c9)
      exact ⟨fun _ => ⟨M', by rw [e0, e1], e2, e3⟩, fun z => (z rfl).elim⟩
  · rw [if_neg c8]
    refine ⟨fun o e => ?_, fun s e => (by cases e), fun s e => (by cases e)⟩
    cases e
    have ht : td = false := Bool.eq_false_iff.2 fun z => c8 (Or.inl z)
    have n4 : ¬ bnd (tpk (fo 5 (cnc base B) v).1) = 4 := fun z => c8 (Or.inr z)
    refine ⟨fun _ => failS ?_ ht, fun z => (z rfl).elim⟩
    obtain ⟨M', e1, e2, e3⟩ := BR_f (F := F) h
    by_cases hi : inn B = 22
    · refine Or.inl ⟨M', ?_, e2, e3⟩
      have s93 : sg q n f 93 = false := Bool.eq_false_iff.2 fun z => c6 ⟨z, T22.1 hi⟩
      rw [bs_2 hF h (n5 ht), if_pos (i3.2.2 hi), show fX11_isSign M 93 = bI (sg q n f 93) from sgb_r hTx hTk (b := 93) (by omega), s93, show bI false = 0 from rfl, e1, Option.bind_some, if_neg (show ¬ sp_I M' 103 19 = 0 by rw [e3.2.1]; decide)]
    · refine Or.inr ⟨M', ?_, e2, e3⟩
      have n20 : ¬ (inn B = 0 ∧ base = 20) := fun z => c7 (T22.2 z.1 z.2)
      have w5 := W.2.1
      have hc : cTB (tpk (fo 5 (cnc base B) v).1) = true := top_ctb W.1 (by omega) (by rw [i5]; exact hi) (by rw [i5]; exact n20) hB
      have nu : bnd (jnK q n f) ≠ 4 := fun z => c2 ⟨z, ht, hc⟩
      rw [bs_2 hF h (n5 ht), if_neg (fun w => hi (i3.2.1 w)), (j163_p hF hB h n4).2 nu]
      have j : fX11_behindSum_j224 F 27 0 M = some (1, M') := by
        unfold fX11_behindSum_j224
        rw [e1, Option.bind_some, if_neg (show ¬ sp_I M' 103 19 = 0 by rw [e3.2.1]; decide)]
      rw [j]
      by_cases z : ic (inn B) = -1
      · rw [if_pos z, if_neg]
        intro w
        have hb : base = 20 := by
          rcases hB with e | e
          · exact e
          · rw [e] at w; exact absurd w (by decide)
        exact n20 ⟨i3.1.1 z, hb⟩
      · rw [if_neg z]
end YStb2
