/-! ===== expressions: the reference behind a test ===== -/
theorem jk_w {q : Nat → Nat} {n f : Nat} : (jnK q n f = 12 ↔ isP q n f 1476 = true) ∧ (jnK q n f = 13 ↔ isP q n f 498 = true) := by
  by_cases h1 : tkS q n f = 1
  · have e9 : wdx q n f cs_9 = (if isP q n f 1476 = true then some 0 else if isP q n f 498 = true then some 1 else none) := by
      rw [wdx_e]
      unfold cs_9
      rw [fnd, fnd, fnd]
    unfold jnK
    rw [if_pos h1, e9]
    by_cases a : isP q n f 1476 = true
    · have b : ¬ isP q n f 498 = true := fun z => absurd (isP_u _ _ a z) (by decide)
      rw [if_pos a, if_pos rfl]
      exact ⟨⟨fun _ => a, fun _ => rfl⟩, ⟨fun z => (by cases z), fun z => (b z).elim⟩⟩
    · rw [if_neg a]
      by_cases b : isP q n f 498 = true
      · rw [if_pos b, if_neg (by decide), if_pos rfl]
        exact ⟨⟨fun z => (by cases z), fun z => (a z).elim⟩, ⟨fun _ => b, fun _ => rfl⟩⟩
      · rw [if_neg b, if_neg (by decide), if_neg (by decide)]
        exact ⟨⟨fun z => (by cases z), fun z => (a z).elim⟩, ⟨fun z => (by cases z), fun z => (b z).elim⟩⟩
  · have hp : ∀ x, ¬ isP q n f x = true := fun x z => h1 (of_decide_eq_true z).1
    refine ⟨⟨fun z => (h1 (jn_w (Or.inl z)).1).elim, fun z => (hp _ z).elim⟩, ⟨fun z => (h1 (jn_w (Or.inr z)).1).elim, fun z => (hp _ z).elim⟩⟩
section YTest
variable {p0 : PP} {F n f nw t lv br base : Nat} {q : Nat → Nat} {ord td : Bool} {M : sp_Mem} {B : Sk} {v : ev_S}
theorem BR_Y (h : BR M q n f ord nw p0 base B v td t lv br) : TXR M q n ∧ TKR M q n f ∧ sp_I M 103 19 = 0 ∧ WB base B ∧ WFk base (cnc base B) br ∧ TL B := by
  obtain ⟨Bi, p, len, m, nn, rfl, hY, hS, ht, hWB, hw, hL, htd⟩ := h
  exact ⟨hY.1, hY.2.1, hY.2.2.2.2.2.2.1, hWB, hw, hL⟩
theorem fo_5 {b : Nat} (hb : b ≤ 5) : fo b (fo 5 (cnc base B) v).1 (fo 5 (cnc base B) v).2 = fo b (cnc base B) v := fo_2 hb _ _
/-- the reference may settle here, and what is left is a test -/
theorem Fok_y {b : Nat} (hb : 1 ≤ b) (hb3 : b ≤ 3) (hB : base = 20 ∨ base = 21) (h : BR M q n f ord nw p0 base B v td t lv br) (hT : td = true ∨ bnd (tpk (fo 5 (cnc base B) v).1) = 4) : Fok b B v ∧ ev_T (fo b B v).2 ∧ cTB (tpk (cnc base (fo b B v).1)) = true ∧ WFk base (cnc base (fo b B v).1) br := by
  obtain ⟨Bi, p, len, m, nn, rfl, hY, hS, ht, hWB, hw, hL, htd⟩ := h
  have FC := fo_cnc hb hB (drp Bi) v hWB
  have hL2 : TL (cnc base (drp Bi)) := by
    have : ∀ B : Sk, TL B → TL (cnc base B) := by
      intro B
      induction B with
      | nil =>
        intro _ x hx hk
        rcases List.mem_cons.mp hx with e | e
        · rw [e] at hk
          have hk : base = 12 ∨ base = 13 := hk
          omega
        · cases e
      | cons x B ih =>
        intro hL
        have i := ih (fun y hy => hL y (List.mem_cons_of_mem _ hy))
        by_cases c : x.1 = 11 ∧ tpk (cnc base B) = 11
        · rw [cnc_1 c]; exact fun y hy => i y (List.mem_of_mem_tail hy)
        · rw [cnc_2 c]
          intro y hy
          rcases List.mem_cons.mp hy with e | e
          · rw [e]; exact hL x (by simp)
          · exact i y e
    exact this _ hL
  have K := Fok_12 hb hb3 (b0 hB) hw hL2 (fun z => ⟨(htd z).1, cTB_3 (htd z).2⟩) hT
  have C := isT_ctb hb hb3 (b0 hB) hw htd hT
  rw [fo_2 (by omega), FC] at K C
  have W := fo_wf hb (b0 hB) _ br v hw
  rw [FC] at W
  refine ⟨?_, K.2, C, W.1⟩
  by_cases z : td = true
  · exact FokB_T hb hB _ _ hWB hL (cTB_3 (htd z).2) (htd z).1
  · exact FokB_C hb hb3 hB _ _ hWB hL (hT.resolve_left z)
/-- and / or -/
theorem bt_a (hF : 1000 ≤ F) (hB : base = 20 ∨ base = 21) (h : BR M q n f ord nw p0 base B v td t lv br) (hT : td = true ∨ bnd (tpk (fo 5 (cnc base B) v).1) = 4) (hk : jnK q n f = 12 ∨ jnK q n f = 13) : ∃ M', fX11_behindTest F M = some (0, M') ∧ yfr M M' ∧ ER M' q n (nxt q n f) ord nw p0 base ((jnK q n f, (fo (bnd (jnK q n f)) B v).2) :: (fo (bnd (jnK q n f)) B v).1) t lv br ∧ cnc base ((jnK q n f, (fo (bnd (jnK q n f)) B v).2) :: (fo (bnd (jnK q n f)) B v).1) = (jnK q n f, (fo (bnd (jnK q n f)) (cnc base B) v).2) :: (fo (bnd (jnK q n f)) (cnc base B) v).1 := by
  have hu : bnd (jnK q n f) = 1 ∨ bnd (jnK q n f) = 2 := by
    rcases hk with e | e
    · rw [e]; exact Or.inr rfl
    · rw [e]; exact Or.inl rfl
  have K := Fok_y (b := bnd (jnK q n f)) (by omega) (by omega) hB h hT
  obtain ⟨Bi, p, len, m, nn, rfl, hY, hS, ht, hWB, hw, hL, htd⟩ := h
  have FC := fo_cnc (b := bnd (jnK q n f)) (by omega) hB (drp Bi) v hWB
  have hj := jn_2 hY.2.1.1 hk
  obtain ⟨M1, Bi1, p1, len1, m1, n1, e1, e2, e3, e4, e5, e6, e7⟩ := settle_w (b := bnd (jnK q n f)) hF (by omega) (by omega) hY hS K.1
  obtain ⟨M2, M3, M4, g1, g2, g3, g4, g5⟩ := push_o (k := jnK q n f) hF e3 e4 hk (by have := hY.2.2.2.2.2.2.2.2; omega)
  have ce : cnc base ((jnK q n f, (fo (bnd (jnK q n f)) (drp Bi) v).2) :: (fo (bnd (jnK q n f)) (drp Bi) v).1) = (jnK q n f, (fo (bnd (jnK q n f)) (drp Bi) v).2) :: cnc base (fo (bnd (jnK q n f)) (drp Bi) v).1 := cnc_2 (fun z => by have := z.1; have : jnK q n f = 11 := this; omega)
  have suf := fo_suf (b := bnd (jnK q n f)) (drp Bi) v
  have W2 := fo_wf (b := bnd (jnK q n f)) (by omega) (b0 hB) _ br v hw
  rw [FC] at W2
  have Wn : WFk base ((jnK q n f, (fo (bnd (jnK q n f)) (drp Bi) v).2) :: cnc base (fo (bnd (jnK q n f)) (drp Bi) v).1) br := WFk_cons K.2.2.2 (by omega) ⟨fun _ => W2.2.1, fun _ => K.2.2.1⟩
  refine ⟨M4, ?_, (e2.mono (by decide) (by decide)).tr g4, ⟨(jnK q n f, _, len1) :: Bi1, len1 + 1, ?_, by rw [← ht, ← e5]; exact g5, WB_cons (WB_s hWB suf) (by rw [ce]; exact Wn), by rw [ce]; exact Wn, TL_cons (TL_s suf hL) (fun _ => K.2.1)⟩, ?_⟩
  · have hT1 := hY.1
    have hK1 := hY.2.1
    unfold fX11_behindTest fX11_behindTest_j22 fX11_behindTest_j32 fX11_behindTest_j47
    simp only [sp_do]
    rcases hk with e | e
    · have w1 : ¬ fX11_isWord M 1476 = 0 := fun w => ((isWb (F := F) hT1 hK1 _).1 w) (jk_w.1.1 e)
      rw [e] at e1 g1 g2
      rw [if_neg w1, if_neg w1, show fX11_settle F M 2 = some M1 from e1, Option.bind_some, if_neg w1, show fX11_push M1 29 (sp_I M1 103 23) = some M2 from g1, Option.bind_some, show fX11_emit M2 29 0 = some M3 from g2, Option.bind_some, g3, Option.bind_some]
    · have w1 : fX11_isWord M 1476 = 0 := (isWb (F := F) hT1 hK1 _).2 (fun w => by have := jk_w.1.2 w; omega)
      have w2 : ¬ fX11_isWord M 498 = 0 := fun w => ((isWb (F := F) hT1 hK1 _).1 w) (jk_w.2.1 e)
      rw [e] at e1 g1 g2
      rw [w1, if_pos rfl, if_neg w2, if_pos rfl, show fX11_settle F M 1 = some M1 from e1, Option.bind_some, if_pos rfl, show fX11_push M1 30 (sp_I M1 103 23) = some M2 from g1, Option.bind_some, show fX11_emit M2 30 0 = some M3 from g2, Option.bind_some, g3, Option.bind_some]
  · show (_, _) :: drp Bi1 = _
    rw [e6]
  · rw [ce, FC]
theorem bt_pre (hF : 1000 ≤ F) (h : BR M q n f ord nw p0 base B v td t lv br) (hk : ¬ (jnK q n f = 12 ∨ jnK q n f = 13)) : fX11_behindTest F M = (if ic (inn B) = -1 then (some (4, M)) else ((fX11_must F M (fX11_isSign M 41)).bind fun M13 => if (sp_I M13 103 19) = 0 then ((fX11_settle F M13 1).bind fun M15 => some (2, sp_setI (sp_setI M15 103 29 ((sp_I M15 103 29) - 1)) 103 30 ((sp_I (sp_setI M15 103 29 ((sp_I M15 103 29) - 1)) 103 30) - 1))) else (some (2, M13)))) := by
  obtain ⟨Bi, p, len, m, nn, rfl, hY, hS, ht, hWB, hw, hL, htd⟩ := h
  unfold fX11_behindTest
  simp only [sp_do]
  rw [if_pos ((isWb (F := F) hY.1 hY.2.1 _).2 (fun w => hk (Or.inl (jk_w.1.2 w)))), if_pos ((isWb (F := F) hY.1 hY.2.1 _).2 (fun w => hk (Or.inr (jk_w.2.2 w)))), inner_r hF hY, Option.bind_some]
theorem ic_0 : ∀ k, k = 0 ∨ k = 22 ∨ k = 23 → (ic k = -1 ↔ k = 0) ∧ (ic k = 32 ↔ k = 22) := by
  intro k h
  rcases h with rfl | rfl | rfl <;> decide
theorem inn_3 : ∀ B : Sk, inn B = 0 ∨ inn B = 22 ∨ inn B = 23
  | [] => Or.inl rfl
  | x :: B => by
    rw [inn]
    by_cases h : x.1 = 22 ∨ x.1 = 23
    · rw [if_pos h]; omega
    · rw [if_neg h]; exact inn_3 B
/-- the top of the pile, once no not waits there -/
theorem top_B {k : Nat} {B : Sk} (hB : base = 20 ∨ base = 21) (hk : k = 22 ∨ k = 23) (h : tpk (cnc base B) = k) (hn : tpk B ≠ 11) : ∃ g B', B = (k, g) :: B' ∧ cnc base B = (k, g) :: cnc base B' := by
  cases B with
  | nil =>
    have : base = k := h
    omega
  | cons x B =>
    have hn : x.1 ≠ 11 := hn
    have e := cnc_2 (base := base) (x := x) (B := B) (fun z => hn z.1)
    rw [e] at h
    obtain ⟨k', g⟩ := x
    have h : k' = k := h
    subst h
    exact ⟨g, B, rfl, e⟩
/-- a bracket closed -/
theorem cl_y {b kk : Nat} {tq : Bool} (hF : 1000 ≤ F) (hB : base = 20 ∨ base = 21) (hbr : br ≤ 8) (h : BR M q n f ord nw p0 base B v td t lv br) (hs : tkS q n f ≠ 0) (hb1 : 1 ≤ b) (hb7 : b < 7) (hk : kk = 22 ∨ kk = 23) (ho : Fok b B v) (htop : tpk (cnc base (fo b B v).1) = kk) (hn : tpk (fo b B v).1 ≠ 11) (htq : tq = true → kk = 23 ∧ ev_T (fo b B v).2) : ∃ M1 M2 M3, fX11_must F M 1 = some M1 ∧ sp_I M1 103 19 = 0 ∧ fX11_settle F M1 (nI b) = some M2 ∧ sp_setI (sp_setI M2 103 29 (sp_I M2 103 29 - 1)) 103 30 (sp_I (sp_setI M2 103 29 (sp_I M2 103 29 - 1)) 103 30 - 1) = M3 ∧ yfr M M3 ∧ BR M3 q n (nxt q n f) ord nw p0 base (fo b B v).1.tail (fo b B v).2 tq t lv (br - 1) ∧ cnc base (fo b B v).1.tail = (cnc base (fo b B v).1).tail := by
  obtain ⟨Bi, p, len, m, nn, rfl, hY, hS, ht, hWB, hw, hL, htd⟩ := h
  have FC := fo_cnc (b := b) hb1 hB (drp Bi) v hWB
  have W := fo_wf (b := b) hb1 (b0 hB) _ br v hw
  rw [FC] at W
  obtain ⟨g, B', hB1, hB2⟩ := top_B hB hk htop hn
  have suf := fo_suf (b := b) (drp Bi) v
  obtain ⟨M1, e1, e2, e3⟩ := YC_next hF hY
  have r99 : rcM M1 (bI ord) len = rcM M (bI ord) len := by
    unfold rcM
    rw [fr_A (SA := [114]) (SB := []) e2 (by decide) 114 (by decide), fr_A (SA := [115]) (SB := []) e2 (by decide) 115 (by decide)]
  obtain ⟨M2, Bi2, p2, len2, m2, n2, g1, g2, g3, g4, g5, g6, g7⟩ := settle_w (b := b) hF hb1 hb7 e3 (by rw [r99]; exact hS) ho
  rw [hB1] at g6
  cases Bi2 with
  | nil => cases g6
  | cons x B0 =>
    obtain ⟨k1, g1', a1⟩ := x
    have g6a : (k1, g1') :: drp B0 = (kk, g) :: B' := g6
    injection g6a with g6b g6c
    have g6d : k1 = kk := congrArg Prod.fst g6b
    subst g6d
    have hW1 := W.1
    dsimp only at hW1
    rw [hB2] at hW1
    have T := WFk_tl hW1 hk hB
    obtain ⟨M3, s1, s2, s3⟩ := pop_y g3 hk T.1 hbr
    have r3 : rcM M3 (bI ord) len2 = rcM M2 (bI ord) len2 := by
      unfold rcM
      rw [fr_A (SA := [114]) (SB := []) s2 (by decide) 114 (by decide), fr_A (SA := [115]) (SB := []) s2 (by decide) 115 (by decide)]
    refine ⟨M1, M2, M3, must_1 hY.2.2.2.2.2.2.1 (by decide) e1, e3.2.2.2.2.2.2.1, g1, s1, ((e2.mono (by decide) (by decide)).tr (g2.mono (by decide) (by decide))).tr (s2.mono (by decide) (by decide)), ⟨B0, p2, len2, m2, n2, ?_, s3, by rw [r3]; exact g4, by omega, ?_, ?_, ?_, ?_⟩, ?_⟩
    · rw [hB1]; exact g6c
    · rw [hB1]
      rw [hB1] at suf
      exact WB_s hWB ((List.suffix_cons _ _).trans suf)
    · rw [hB1]; exact T.2.1
    · rw [hB1]
      rw [hB1] at suf
      exact TL_s ((List.suffix_cons _ _).trans suf) hL
    · intro z
      rw [hB1]
      exact ⟨(htq z).2, T.2.2.2 (Or.inr (htq z).1)⟩
    · rw [hB1]
      rw [hB1] at hB2
      rw [hB2]
      rfl
/-- the reference in its state 2 -/
theorem tl_r {kx : sp_Mem → Option sp_Mem} {kf : Nat} {a1 : Int32} (hF : 1000 ≤ F) (hB : base = 20 ∨ base = 21) (hbr : br ≤ 8) (h : BR M q n f ord nw p0 base B v td t lv br) (hT : td = true ∨ bnd (tpk (fo 5 (cnc base B) v).1) = 4) :
  ((jnK q n f = 12 ∨ jnK q n f = 13) → ∃ M' B', fX11_readExpression_l20 F kx (kf + 2) a1 2 M = fX11_readExpression_l20 F kx (kf + 1) a1 0 M' ∧ yfr M M' ∧ cnc base B' = (jnK q n f, (fo (bnd (jnK q n f)) (cnc base B) v).2) :: (fo (bnd (jnK q n f)) (cnc base B) v).1 ∧ ER M' q n (nxt q n f) ord nw p0 base B' t lv br) ∧
  (¬ (jnK q n f = 12 ∨ jnK q n f = 13) → sg q n f 41 = true → tpk (fo 1 (cnc base B) v).1 = 23 → ∃ M' B', fX11_readExpression_l20 F kx (kf + 2) a1 2 M = fX11_readExpression_l20 F kx (kf + 1) a1 2 M' ∧ yfr M M' ∧ cnc base B' = (fo 1 (cnc base B) v).1.tail ∧ BR M' q n (nxt q n f) ord nw p0 base B' (fo 1 (cnc base B) v).2 true t lv (br - 1)) ∧
  (¬ (jnK q n f = 12 ∨ jnK q n f = 13) → tpk (fo 1 (cnc base B) v).1 = 21 → fX11_readExpression_l20 F kx (kf + 2) a1 2 M = kx M) ∧
  (¬ (jnK q n f = 12 ∨ jnK q n f = 13) → sg q n f 41 = false → tpk (fo 1 (cnc base B) v).1 = 23 → ∃ M', fX11_readExpression_l20 F kx (kf + 2) a1 2 M = kx M' ∧ yfr M M' ∧ FS M' q n f) ∧
  (tpk (fo 1 (cnc base B) v).1 = 21 ∨ tpk (fo 1 (cnc base B) v).1 = 23) := by
  have hh := h
  have K := Fok_y (b := 1) (by omega) (by omega) hB h hT
  obtain ⟨hTx, hTk, h19, hWB, hw, hL⟩ := BR_Y h
  have FC := fo_cnc (b := 1) (by omega) hB B v hWB
  have W := fo_wf (b := 1) (by omega) (b0 hB) _ br v hw
  have t1 : bnd (tpk (fo 1 (cnc base B) v).1) < 1 := W.2.1
  have top := top_fo1 hB W.1 t1 (by rw [FC]; exact K.2.2.1)
  have hin : inn (fo 1 (cnc base B) v).1 = inn B := (inn_fo (by omega) _ _).trans (inn_cnc hB B)
  rw [hin] at top
  have one : ∀ {x : Int32 × sp_Mem}, fX11_behindTest F M = some x → fX11_readExpression_l20 F kx (kf + 2) a1 2 M = fX11_readExpression_l20 F kx (kf + 1) a1 x.1 x.2 := by
    intro x hx
    rw [fX11_readExpression_l20, if_pos h19, if_neg (by decide), if_neg (by decide), if_neg (by decide), if_neg (by decide), hx, Option.bind_some]
  have i3 := ic_0 _ (inn_3 B)
  have s41 : fX11_isSign M 41 = bI (sg q n f 41) := sgb_r hTx hTk (b := 41) (by omega)
  refine ⟨fun hk => ?_, fun hk hs h23 => ?_, fun hk h21 => ?_, fun hk hs h23 => ?_, top.elim (fun z => Or.inl z.2) (fun z => Or.inr z.2)⟩
  · obtain ⟨M', e1, e2, e3, e4⟩ := bt_a hF hB h hT hk
    exact ⟨M', _, one e1, e2, e4, e3⟩
  · have hi : inn B = 23 := by
      rcases top with z | z
      · omega
      · exact z.1
    have htop : tpk (cnc base (fo 1 B v).1) = 23 := by
      rw [FC] at h23
      exact h23
    have hn : tpk (fo 1 B v).1 ≠ 11 := by
      intro z
      have : ∀ (B : Sk) (v : ev_S), tpk (fo 1 B v).1 ≠ 11 := by
        intro B
        induction B with
        | nil => intro v; exact (show 0 ≠ 11 by decide)
        | cons x B ih =>
          intro v
          obtain ⟨k, g⟩ := x
          by_cases hb : bnd k < 1
          · rw [show fo 1 ((k, g) :: B) v = ((k, g) :: B, v) from if_pos hb]
            intro w
            have w : k = 11 := w
            rw [w] at hb
            exact absurd hb (by decide)
          · rw [show fo 1 ((k, g) :: B) v = fo 1 B (xpp k g v) from if_neg hb]
            exact ih _
      exact this _ _ z
    obtain ⟨M1, M2, M3, e1, e2, e3, e4, e5, e6, e7⟩ := cl_y (b := 1) (kk := 23) (tq := true) hF hB hbr h (by rw [(sg_S hs).1]; decide) (by omega) (by omega) (Or.inr rfl) K.1 htop hn (fun _ => ⟨rfl, K.2.1⟩)
    refine ⟨M3, (fo 1 B v).1.tail, ?_, e5, ?_, ?_⟩
    · have hc : fX11_behindTest F M = some (2, M3) := by
        rw [bt_pre hF h hk, if_neg (fun w => by have := i3.1.1 w; omega), s41, hs, show bI true = 1 from rfl, e1, Option.bind_some, if_pos e2, show fX11_settle F M1 1 = some M2 from e3, Option.bind_some, e4]
      exact one hc
    · rw [e7, FC]
    · rw [FC]; exact e6
  · have hi : inn B = 0 := by
      rcases top with z | z
      · exact z.1
      · omega
    have hc : fX11_behindTest F M = some (4, M) := by
      rw [bt_pre hF h hk, if_pos (i3.1.2 hi)]
    rw [one hc]
    dsimp only
    rw [fX11_readExpression_l20, if_pos h19, if_pos rfl]
  · have hi : inn B = 23 := by
      rcases top with z | z
      · omega
      · exact z.1
    obtain ⟨Bi, p, len, m, nn, rfl, hY, hS, ht, _⟩ := h
    obtain ⟨M', e1, e2, e3⟩ := must_f (F := F) hY (by have := hS.1; omega)
    refine ⟨M', ?_, e2, e3⟩
    have hc : fX11_behindTest F M = some (2, M') := by
      rw [bt_pre hF hh hk, if_neg (fun w => by have := i3.1.1 w; omega), s41, hs, show bI false = 0 from rfl, e1, Option.bind_some, if_neg (show ¬ sp_I M' 103 19 = 0 by rw [e3.2.1]; decide)]
    rw [one hc]
    exact rd_f e3
end YTest
