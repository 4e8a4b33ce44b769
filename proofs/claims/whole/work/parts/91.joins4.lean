/-! ===== expressions: the class joins by and / or ===== -/
theorem bnd_12 : ∀ k, k < 14 → (bnd k = 1 ∨ bnd k = 2) → k = 12 ∨ k = 13 := by decide +kernel
section Joins4
variable {p0 : PP} {F n f nw len m nn lv br p base : Nat} {q : Nat → Nat} {ord td : Bool} {M : sp_Mem} {Ai : List (Nat × ev_S × Nat)} {v : ev_S}
theorem TL_s {A B : Sk} (h : A <:+ B) (ht : TL B) : TL A := fun x hx => ht x (h.subset hx)
theorem Fok_12 {b : Nat} (hb : 1 ≤ b) (hb3 : b ≤ 3) (h0 : bnd base = 0) {A : Sk} (hw : WFk base A br) (ht : TL A) (htd : td = true → ev_T v ∧ bnd (tpk A) ≤ 3) (hT : td = true ∨ bnd (tpk (fo 5 A v).1) = 4) : Fok b (fo 5 A v).1 (fo 5 A v).2 ∧ ev_T (fo b (fo 5 A v).1 (fo 5 A v).2).2 := by
  have W := fo_wf (b := 5) (by omega) h0 A br v hw
  by_cases z : td = true
  · obtain ⟨t1, t2⟩ := htd z
    rw [fo_id (show bnd (tpk A) < 5 by omega)]
    exact Fok_T hb A br v hw h0 t2 ht t1
  · exact Fok_C hb hb3 _ br _ W.1 h0 (hT.resolve_left z) (TL_s W.2.2 ht)
theorem joins_o (hF : 1000 ≤ F) (h0 : bnd base = 0) (hbr : br ≤ 8) (h : XC M q n f ord nw p0 Ai p len m lv br) (hS : ev_Seg nw (ev_cc (sp_I M 99) len) p len v nn) (hw : WFk base (drp Ai) br) (ht : TL (drp Ai)) (htd : td = true → ev_T v ∧ bnd (tpk (drp Ai)) ≤ 3) (h8 : sp_I M 96 8 = bI td) (hu : bnd (jnK q n f) = 1 ∨ bnd (jnK q n f) = 2) :
  ((td = true ∨ bnd (tpk (fo 5 (drp Ai) v).1) = 4) → ∃ M' Ai' len' m', fX2_joins F M = some (1, M') ∧ xfr M M' ∧ drp Ai' = (jnK q n f, (fo (bnd (jnK q n f)) (fo 5 (drp Ai) v).1 (fo 5 (drp Ai) v).2).2) :: (fo (bnd (jnK q n f)) (fo 5 (drp Ai) v).1 (fo 5 (drp Ai) v).2).1 ∧ XC M' q n (nxt q n f) ord nw p0 Ai' len' len' m' lv br ∧ m' = m + nn ∧ ev_T (fo (bnd (jnK q n f)) (fo 5 (drp Ai) v).1 (fo 5 (drp Ai) v).2).2) ∧
  (¬ (td = true ∨ bnd (tpk (fo 5 (drp Ai) v).1) = 4) → ∃ M' Ai' p' len' m' n', fX2_joins F M = some (0, M') ∧ sp_fr [99] [(97, 3), (96, 4)] M M' ∧ XC M' q n f ord nw p0 Ai' p' len' m' lv br ∧ ev_Seg nw (ev_cc (sp_I M' 99) len') p' len' (fo 5 (drp Ai) v).2 n' ∧ m' + n' = m + nn ∧ drp Ai' = (fo 5 (drp Ai) v).1) := by
  have hk := jnK_lt (q := q) (n := n) (f := f)
  have hk2 := bnd_12 _ hk hu
  obtain ⟨M1, Ai1, p1, len1, m1, n1, e1, e2, e3, e4, e5, e6, e7⟩ := ist_c hF h0 h hS hw h8
  have hl := WFk_len _ _ hw
  rw [drp_len] at hl
  have hb62 := bnd_6 (tpk (drp Ai))
  have hlen := e7.length_le
  have pre : fX2_joins F M = fX2_joins_j66 F (nI (jnK q n f)) (nI (bnd (jnK q n f))) M := by
    unfold fX2_joins fX2_joins_j30 fX2_joins_j56
    rw [jstep_c hF h.1 h.2.1, Option.bind_some]
    simp only [sp_do]
    rw [bj_e _ (by omega), if_neg (show ¬ jnK q n f = 0 by omega)]
    rcases hu with e | e
    · rw [e, if_pos (show nI 1 < 5 by decide), if_neg (show ¬ nI 1 = 4 by decide), if_neg (show ¬ nI 1 = 2 by decide), if_pos (show nI 1 = 1 from rfl)]
    · rw [e, if_pos (show nI 2 < 5 by decide), if_neg (show ¬ nI 2 = 4 by decide), if_pos (show nI 2 = 2 from rfl)]
  refine ⟨fun hT => ?_, fun hT => ⟨M1, Ai1, p1, len1, m1, n1, ?_, e2, e3, e4, e5, e6⟩⟩
  · have K := Fok_12 (b := bnd (jnK q n f)) (by omega) (by omega) h0 hw ht htd hT
    obtain ⟨M2, Ai2, p2, len2, m2, n2, g1, g2, g3, g4, g5, g6, g7⟩ := fold_w (b := bnd (jnK q n f)) hF (by omega) (by omega) e3 e4 (by rw [e6]; exact K.1)
    rw [e6] at g4 g6
    have hlen2 := g7.length_le
    have hj := jn_2 h.2.1.1 hk2
    obtain ⟨M3, r1, r2, r3⟩ := jao_c (kk := jnK q n f) (u := bnd (jnK q n f)) hF g3 g4 hk2 hu (by omega) (by have := g3.2.2.2.2.2.2; omega) hj.2
    refine ⟨M3, _, len2 + 1, m2 + n2, ?_, ((e2.tr g2).mono (by decide) (by decide)).tr r2, ?_, r3, by omega, K.2⟩
    · rw [pre]
      unfold fX2_joins_j66
      rw [e1, Option.bind_some]
      dsimp only
      rw [decide_eq_true hT, if_neg (show ¬ bI true = 0 by decide), g1, Option.bind_some]
      exact r1
    · show (_, _) :: drp Ai2 = _
      rw [g6]
  · rw [pre]
    unfold fX2_joins_j66
    rw [e1, Option.bind_some]
    dsimp only
    rw [decide_eq_false hT, if_pos (show bI false = 0 from rfl)]
end Joins4
