/-! ===== expressions: the class joins a comparison ===== -/
theorem bnd_44 : ∀ k, k < 14 → bnd k = 4 → 8 ≤ k ∧ k ≤ 10 := by decide +kernel
section Joins2
variable {p0 : PP} {F n f nw len m nn lv br p base : Nat} {q : Nat → Nat} {ord : Bool} {M : sp_Mem} {Ai : List (Nat × ev_S × Nat)} {v : ev_S}
theorem ctb_w {Aj : List (Nat × ev_S × Nat)} {p' len' m' : Nat} (h : PSC M nw p0 Aj p' len' m') (hne : drp Aj ≠ []) : fX2_canTestBegin M = some (bI (cTB (tpk (drp Aj)))) := by
  cases Aj with
  | nil => exact (hne rfl).elim
  | cons x A0 =>
    obtain ⟨k, g, a⟩ := x
    exact ctb_c h
theorem joins_p (hF : 1000 ≤ F) (h0 : bnd base = 0) (hbr : br ≤ 8) (h : XC M q n f ord nw p0 Ai p len m lv br) (hS : ev_Seg nw (ev_cc (sp_I M 99) len) p len v nn) (hw : WFk base (drp Ai) br) (h8 : sp_I M 96 8 = 0) (hu : bnd (jnK q n f) = 4) :
  (cTB (tpk (fo 5 (drp Ai) v).1) = true → ∃ M' Ai' len' m', fX2_joins F M = some (1, M') ∧ xfr M M' ∧ drp Ai' = (jnK q n f, (fo 5 (drp Ai) v).2) :: (fo 5 (drp Ai) v).1 ∧ XC M' q n (nxt q n f) ord nw p0 Ai' len' len' m' lv br ∧ m' = m + nn) ∧
  (cTB (tpk (fo 5 (drp Ai) v).1) = false → ∃ M' Ai' p' len' m' n', fX2_joins F M = some (0, M') ∧ sp_fr [99] [(97, 3), (96, 4)] M M' ∧ XC M' q n f ord nw p0 Ai' p' len' m' lv br ∧ ev_Seg nw (ev_cc (sp_I M' 99) len') p' len' (fo 5 (drp Ai) v).2 n' ∧ m' + n' = m + nn ∧ drp Ai' = (fo 5 (drp Ai) v).1) := by
  have hk := jnK_lt (q := q) (n := n) (f := f)
  have hk2 := bnd_44 _ hk hu
  have hne : jnK q n f ≠ 0 := by omega
  obtain ⟨M1, Ai1, p1, len1, m1, n1, e1, e2, e3, e4, e5, e6, e7⟩ := fold_w (b := 5) hF (by omega) (by omega) h hS (Fok_4 (by omega) _ _)
  have hl := WFk_len _ _ hw
  rw [drp_len] at hl
  have hb62 := bnd_6 (tpk (drp Ai))
  have hlen := e7.length_le
  have hw2 := (fo_wf (b := 5) (by omega) h0 (drp Ai) br v hw).1
  rw [← e6] at hw2
  have ct := ctb_w e3.2.2.1 (wf_ne hw2)
  rw [e6] at ct
  have pre : fX2_joins F M = (if bI (cTB (tpk (fo 5 (drp Ai) v).1)) = 0 then some (0, M1) else fX2_joins_j83 F (nI (jnK q n f)) (nI 4) M1) := by
    unfold fX2_joins fX2_joins_j30
    rw [jstep_c hF h.1 h.2.1, Option.bind_some]
    simp only [sp_do]
    rw [bj_e _ (by omega), hu, if_pos (show nI 4 < 5 by decide), if_pos (show nI 4 = 4 from rfl), h8, if_pos rfl, show fX2_fold F M 5 = some M1 from e1, Option.bind_some, ct, Option.bind_some, if_neg hne]
  refine ⟨fun hc => ?_, fun hc => ⟨M1, Ai1, p1, len1, m1, n1, ?_, e2, e3, e4, e5, e6⟩⟩
  · obtain ⟨M2, g1, g2, g3⟩ := jb_c (kk := jnK q n f) (u := 4) hF e3 e4 (by omega) (by omega) (by omega) (jnK_S hne)
    refine ⟨M2, _, len1, m1 + n1, ?_, (e2.mono (by decide) (by decide)).tr g2, ?_, g3, e5⟩
    · rw [pre, hc, if_neg (show ¬ bI true = 0 by decide)]
      exact g1
    · show (_, _) :: drp Ai1 = _
      rw [e6]
  · rw [pre, hc, if_pos (show bI false = 0 from rfl)]
end Joins2
