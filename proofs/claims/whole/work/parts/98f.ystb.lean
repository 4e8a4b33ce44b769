/-! ===== expressions: one step of the reference behind an operand ===== -/
theorem jk_of {q : Nat → Nat} {n f b : Nat} (h : sg q n f b = true) : jnK q n f = jb b := by
  rw [jnK_3 (sg_S h).1, (sg_S h).2]
theorem jk_s {q : Nat → Nat} {n f : Nat} (h : 3 ≤ jnK q n f ∧ jnK q n f ≤ 10) : tkS q n f = 3 ∧ jb (q f) = jnK q n f := by
  by_cases h3 : tkS q n f = 3
  · exact ⟨h3, (jnK_3 h3).symm⟩
  · exfalso
    by_cases h1 : tkS q n f = 1
    · unfold jnK at h
      rw [if_pos h1] at h
      repeat' split at h
      all_goals omega
    · rw [jnK_02 h1 h3] at h
      omega
theorem jb_v {b k : Nat} (h : jb b = k) (hk : 3 ≤ k) : (k = 3 → b = 43) ∧ (k = 4 → b = 45) ∧ (k = 5 → b = 42) ∧ (k = 6 → b = 47) ∧ (k = 7 → b = 37) ∧ (k = 8 → b = 60) ∧ (k = 9 → b = 62) ∧ (k = 10 → b = 61) ∧ k ≤ 10 := by
  unfold jb at h
  repeat' split at h
  all_goals omega
theorem jk_sg {q : Nat → Nat} {n f k b : Nat} (hk : 3 ≤ k) (hb : jb b = k) (h : jnK q n f = k) : sg q n f b = true := by
  have h10 := (jb_v hb hk).2.2.2.2.2.2.2.2
  have S := jk_s (q := q) (n := n) (f := f) (by omega)
  have A := jb_v (b := q f) (k := k) (by rw [S.2, h]) hk
  have C := jb_v hb hk
  have : q f = b := by
    have : k = 3 ∨ k = 4 ∨ k = 5 ∨ k = 6 ∨ k = 7 ∨ k = 8 ∨ k = 9 ∨ k = 10 := by omega
    omega
  exact decide_eq_true ⟨S.1, this⟩
section YStb
variable {p0 : PP} {F n f nw t lv br base : Nat} {q : Nat → Nat} {ord td : Bool} {M : sp_Mem} {B : Sk} {v : ev_S}
theorem bs_pre {a1 : Int32} (hT : TXR M q n) (hK : TKR M q n f) : fX11_behindSum F M a1 = fX11_behindSum_j71 F a1 (if 3 ≤ jnK q n f ∧ jnK q n f ≤ 7 then nI (rk (jnK q n f)) else -1) M := by
  have s : ∀ b, b < 256 → fX11_isSign M (nI b) = bI (sg q n f b) := fun b hb => sgb_r hT hK hb
  have s43 : fX11_isSign M 43 = bI (sg q n f 43) := s 43 (by omega)
  have s45 : fX11_isSign M 45 = bI (sg q n f 45) := s 45 (by omega)
  have s42 : fX11_isSign M 42 = bI (sg q n f 42) := s 42 (by omega)
  have s47 : fX11_isSign M 47 = bI (sg q n f 47) := s 47 (by omega)
  have s37 : fX11_isSign M 37 = bI (sg q n f 37) := s 37 (by omega)
  have t0 : ¬ bI true = 0 := by decide
  have f0 : bI false = 0 := rfl
  unfold fX11_behindSum
  rw [s43, s45, s42, s47, s37]
  cases h43 : sg q n f 43 with
  | true => rw [if_neg t0, jk_of h43]; rfl
  | false =>
    rw [if_pos f0]
    cases h45 : sg q n f 45 with
    | true => rw [if_neg t0, jk_of h45]; rfl
    | false =>
      rw [if_pos f0]
      cases h42 : sg q n f 42 with
      | true => rw [if_neg t0, jk_of h42]; rfl
      | false =>
        rw [if_pos f0]
        cases h47 : sg q n f 47 with
        | true => rw [if_neg t0, jk_of h47]; rfl
        | false =>
          rw [if_pos f0]
          cases h37 : sg q n f 37 with
          | true => rw [if_neg t0, jk_of h37]; rfl
          | false =>
            rw [if_pos f0, if_neg]
            intro z
            have : jnK q n f = 3 ∨ jnK q n f = 4 ∨ jnK q n f = 5 ∨ jnK q n f = 6 ∨ jnK q n f = 7 := by omega
            rcases this with e | e | e | e | e
            · have := jk_sg (b := 43) (by decide) rfl e; rw [h43] at this; cases this
            · have := jk_sg (b := 45) (by decide) rfl e; rw [h45] at this; cases this
            · have := jk_sg (b := 42) (by decide) rfl e; rw [h42] at this; cases this
            · have := jk_sg (b := 47) (by decide) rfl e; rw [h47] at this; cases this
            · have := jk_sg (b := 37) (by decide) rfl e; rw [h37] at this; cases this
theorem rk_m1 : ∀ k, k < 24 → ¬ nI (rk k) = -1 := by decide +kernel
/-- a sum's sign -/
theorem bs_1 {a1 : Int32} (hF : 1000 ≤ F) (hB : base = 20 ∨ base = 21) (h : BR M q n f ord nw p0 base B v td t lv br) (hu : 5 ≤ bnd (jnK q n f)) : ∃ M' B', fX11_behindSum F M a1 = some (1, M') ∧ yfr M M' ∧ cnc base B' = (jnK q n f, (fo (bnd (jnK q n f)) (cnc base B) v).2) :: (fo (bnd (jnK q n f)) (cnc base B) v).1 ∧ ER M' q n (nxt q n f) ord nw p0 base B' t lv br := by
  have hk := bnd_5 _ jnK_lt hu
  have hb6 := bnd_6 (jnK q n f)
  obtain ⟨Bi, p, len, m, nn, rfl, hY, hS, ht, hWB, hw, hL, htd⟩ := h
  have FC := fo_cnc (b := bnd (jnK q n f)) (by omega) hB (drp Bi) v hWB
  obtain ⟨M1, Bi1, p1, len1, m1, n1, e1, e2, e3, e4, e5, e6, e7⟩ := settle_w (b := bnd (jnK q n f)) hF (by omega) (by omega) hY hS (Fok_4 (by omega) _ _)
  obtain ⟨M2, M3, g1, g2, g3, g4⟩ := push_n (k := jnK q n f) hF e3 e4 (by omega) (jnK_S (by omega))
  have ce : cnc base ((jnK q n f, (fo (bnd (jnK q n f)) (drp Bi) v).2) :: (fo (bnd (jnK q n f)) (drp Bi) v).1) = (jnK q n f, (fo (bnd (jnK q n f)) (drp Bi) v).2) :: cnc base (fo (bnd (jnK q n f)) (drp Bi) v).1 := cnc_2 (fun z => by have := z.1; have : jnK q n f = 11 := this; omega)
  have suf := fo_suf (b := bnd (jnK q n f)) (drp Bi) v
  have W2 := fo_wf (b := bnd (jnK q n f)) (by omega) (b0 hB) _ br v hw
  rw [FC] at W2
  have Wn : WFk base ((jnK q n f, (fo (bnd (jnK q n f)) (drp Bi) v).2) :: cnc base (fo (bnd (jnK q n f)) (drp Bi) v).1) br := WFk_cons W2.1 (by omega) ⟨fun _ => W2.2.1, fun z => (by omega)⟩
  refine ⟨M3, _, ?_, (e2.mono (by decide) (by decide)).tr g3, ?_, ⟨(jnK q n f, _, 0) :: Bi1, len1, ?_, by rw [← ht, ← e5]; exact g4, WB_cons (WB_s hWB suf) (by rw [ce]; exact Wn), by rw [ce]; exact Wn, TL_cons (TL_s suf hL) (fun z => (by omega))⟩⟩
  · rw [bs_pre hY.1 hY.2.1, if_pos (by omega)]
    unfold fX11_behindSum_j71
    rw [if_neg (rk_m1 _ (by omega)), (rk_e _ (by omega) (by omega)).1, e1, Option.bind_some, g1, Option.bind_some, g2, Option.bind_some]
  · rw [ce, FC]
  · show (_, _) :: drp Bi1 = _
    rw [e6]
/-- no sum's sign -/
theorem bs_2 {a1 : Int32} (hF : 1000 ≤ F) (h : BR M q n f ord nw p0 base B v td t lv br) (hu : ¬ 5 ≤ bnd (jnK q n f)) : fX11_behindSum F M a1 = (if ic (inn B) = 32 then ((fX11_must F M (fX11_isSign M 93)).bind fun M21 => if (sp_I M21 103 19) = 0 then ((fX11_settle F M21 5).bind fun M23 => some (3, sp_setI (sp_setI M23 103 29 ((sp_I M23 103 29) - 1)) 103 30 ((sp_I (sp_setI M23 103 29 ((sp_I M23 103 29) - 1)) 103 30) - 1))) else (some (3, M21))) else (if ic (inn B) = (-1) then (if a1 = 0 then (some (4, M)) else (fX11_behindSum_j163 F M)) else (fX11_behindSum_j163 F M))) := by
  obtain ⟨Bi, p, len, m, nn, rfl, hY, hS, ht, hWB, hw, hL, htd⟩ := h
  have hn : ¬ (3 ≤ jnK q n f ∧ jnK q n f ≤ 7) := fun z => by have := bnd_57.1 z; omega
  rw [bs_pre hY.1 hY.2.1, if_neg hn]
  unfold fX11_behindSum_j71
  rw [if_pos rfl, inner_r hF hY, Option.bind_some]
  simp only [sp_do]
theorem cmp_i (hB : base = 20 ∨ base = 21) (h : WB base B) : cmpB B = decide (bnd (tpk (fo 5 (cnc base B) v).1) = 4) := by
  rw [cmpB_e B v]
  have e := fo_cnc (b := 5) (by omega) hB B v h
  have c := cmp_cnc hB (WB_s h (fo_suf (b := 5) B v))
  rw [e]
  exact decide_eq_decide.2 c.symm
/-- compared already -/
theorem j163_c (hF : 1000 ≤ F) (hB : base = 20 ∨ base = 21) (h : BR M q n f ord nw p0 base B v td t lv br) (h4 : bnd (tpk (fo 5 (cnc base B) v).1) = 4) : fX11_behindSum_j163 F M = some (2, M) := by
  have hc := cmp_i (v := v) hB (BR_Y h).2.2.2.1
  obtain ⟨Bi, p, len, m, nn, rfl, hY, hS, ht, hWB, hw, hL, htd⟩ := h
  unfold fX11_behindSum_j163
  rw [cmp_r hF hY, Option.bind_some, hc, decide_eq_true h4, if_neg (by decide)]
theorem j163_p (hF : 1000 ≤ F) (hB : base = 20 ∨ base = 21) (h : BR M q n f ord nw p0 base B v td t lv br) (h4 : ¬ bnd (tpk (fo 5 (cnc base B) v).1) = 4) : (bnd (jnK q n f) = 4 → fX11_behindSum_j163 F M = fX11_behindSum_j224 F (nI (rk (jnK q n f))) 1 M) ∧ (bnd (jnK q n f) ≠ 4 → fX11_behindSum_j163 F M = fX11_behindSum_j224 F 27 0 M) := by
  have hc := cmp_i (v := v) hB (BR_Y h).2.2.2.1
  obtain ⟨Bi, p, len, m, nn, rfl, hY, hS, ht, hWB, hw, hL, htd⟩ := h
  have s : ∀ b, b < 256 → fX11_isSign M (nI b) = bI (sg q n f b) := fun b hb => sgb_r hY.1 hY.2.1 hb
  have s60 : fX11_isSign M 60 = bI (sg q n f 60) := s 60 (by omega)
  have s61 : fX11_isSign M 61 = bI (sg q n f 61) := s 61 (by omega)
  have s62 : fX11_isSign M 62 = bI (sg q n f 62) := s 62 (by omega)
  have t0 : ¬ bI true = 0 := by decide
  have f0 : bI false = 0 := rfl
  have pre : fX11_behindSum_j163 F M = (if (fX11_isSign M 60) = 0 then (fX11_behindSum_j202 F (if (fX11_isSign M 62) = 0 then 27 else 26) M) else (fX11_behindSum_j202 F 25 M)) := by
    unfold fX11_behindSum_j163
    rw [cmp_r hF hY, Option.bind_some, hc, decide_eq_false h4, if_pos f0]
  rw [pre, s60, s62]
  refine ⟨fun h8 => ?_, fun h8 => ?_⟩
  · have k8 := bnd_c4 h8
    have : jnK q n f = 8 ∨ jnK q n f = 9 ∨ jnK q n f = 10 := by omega
    rcases this with e | e | e
    · rw [jk_sg (b := 60) (by decide) rfl e, if_neg t0, e]
      unfold fX11_behindSum_j202 fX11_behindSum_j219
      rw [if_neg (by decide)]
      rfl
    · have s2 := jk_sg (b := 62) (by decide) rfl e
      rw [sg_ne s2 (show 62 ≠ 60 by decide), if_pos f0, s2, if_neg t0, e]
      unfold fX11_behindSum_j202 fX11_behindSum_j219
      rw [if_neg (by decide)]
      rfl
    · have s2 := jk_sg (b := 61) (by decide) rfl e
      rw [sg_ne s2 (show 61 ≠ 60 by decide), if_pos f0, sg_ne s2 (show 61 ≠ 62 by decide), if_pos f0, e]
      unfold fX11_behindSum_j202
      rw [if_pos rfl, s61, s2, if_neg t0]
      rfl
  · have n60 : sg q n f 60 = false := Bool.eq_false_iff.2 fun z => h8 (by rw [jk_of z]; decide)
    have n61 : sg q n f 61 = false := Bool.eq_false_iff.2 fun z => h8 (by rw [jk_of z]; decide)
    have n62 : sg q n f 62 = false := Bool.eq_false_iff.2 fun z => h8 (by rw [jk_of z]; decide)
    rw [n60, if_pos f0, n62, if_pos f0]
    unfold fX11_behindSum_j202
    rw [if_pos rfl, s61, n61, if_pos f0]
/-- a comparison's sign -/
theorem j224_y (hF : 1000 ≤ F) (hB : base = 20 ∨ base = 21) (h : BR M q n f ord nw p0 base B v td t lv br) (hu : bnd (jnK q n f) = 4) (hc : cTB (tpk (fo 5 (cnc base B) v).1) = true) : ∃ M' B', fX11_behindSum_j224 F (nI (rk (jnK q n f))) 1 M = some (1, M') ∧ yfr M M' ∧ cnc base B' = (jnK q n f, (fo 5 (cnc base B) v).2) :: (fo 5 (cnc base B) v).1 ∧ ER M' q n (nxt q n f) ord nw p0 base B' t lv br := by
  have hk := bnd_c4 hu
  obtain ⟨Bi, p, len, m, nn, rfl, hY, hS, ht, hWB, hw, hL, htd⟩ := h
  have FC := fo_cnc (b := 5) (by omega) hB (drp Bi) v hWB
  have hS0 : tkS q n f ≠ 0 := jnK_S (by omega)
  have hg := nxt_gt hY.2.1.1 hS0
  obtain ⟨M0, e01, e02, e03⟩ := YC_next hF hY
  have r99 : rcM M0 (bI ord) len = rcM M (bI ord) len := by
    unfold rcM
    rw [fr_A (SA := [114]) (SB := []) e02 (by decide) 114 (by decide), fr_A (SA := [115]) (SB := []) e02 (by decide) 115 (by decide)]
  obtain ⟨M1, Bi1, p1, len1, m1, n1, e1, e2, e3, e4, e5, e6, e7⟩ := settle_w (b := 5) hF (by omega) (by omega) e03 (by rw [r99]; exact hS) (Fok_4 (by omega) _ _)
  obtain ⟨M2, g1, g2, g3⟩ := push_b (k := jnK q n f) e3 e4 (by omega) (by have := hY.2.2.2.2.2.2.2.2; omega)
  have ce : cnc base ((jnK q n f, (fo 5 (drp Bi) v).2) :: (fo 5 (drp Bi) v).1) = (jnK q n f, (fo 5 (drp Bi) v).2) :: cnc base (fo 5 (drp Bi) v).1 := cnc_2 (fun z => by have := z.1; have : jnK q n f = 11 := this; omega)
  have suf := fo_suf (b := 5) (drp Bi) v
  have W2 := fo_wf (b := 5) (by omega) (b0 hB) _ br v hw
  rw [FC] at W2 hc
  have c3 := cTB_3 hc
  have Wn : WFk base ((jnK q n f, (fo 5 (drp Bi) v).2) :: cnc base (fo 5 (drp Bi) v).1) br := WFk_cons W2.1 (by omega) ⟨fun _ => (by dsimp only at c3 ⊢; omega), fun _ => hc⟩
  refine ⟨M2, _, ?_, ((e02.mono (by decide) (by decide)).tr (e2.mono (by decide) (by decide))).tr g2, ?_, ⟨(jnK q n f, _, 0) :: Bi1, len1, ?_, by rw [← ht, ← e5]; exact g3, WB_cons (WB_s hWB suf) (by rw [ce]; exact Wn), by rw [ce]; exact Wn, TL_cons (TL_s suf hL) (fun z => (by omega))⟩⟩
  · unfold fX11_behindSum_j224
    rw [must_1 hY.2.2.2.2.2.2.1 (by decide) e01, Option.bind_some, if_pos e03.2.2.2.2.2.2.1, show fX11_settle F M0 5 = some M1 from e1, Option.bind_some, g1, Option.bind_some]
  · rw [ce, FC]
  · show (_, _) :: drp Bi1 = _
    rw [e6]
theorem BR_f (h : BR M q n f ord nw p0 base B v td t lv br) : ∃ M', fX11_must F M 0 = some M' ∧ yfr M M' ∧ FS M' q n f := by
  obtain ⟨Bi, p, len, m, nn, rfl, hY, hS, ht, hWB, hw, hL, htd⟩ := h
  exact must_f hY (by have := hS.1; omega)
end YStb
