/-! ===== expressions: the class joins a sum ===== -/
theorem bj_e : ∀ k, k < 24 → fX2_bindingOf (if k = 0 then -1 else nI k) = nI (bnd k) := by decide +kernel
theorem jnK_lt {q : Nat → Nat} {n f : Nat} : jnK q n f < 14 := by
  unfold jnK
  repeat' split
  all_goals omega
theorem jnK_S {q : Nat → Nat} {n f : Nat} (h : jnK q n f ≠ 0) : tkS q n f ≠ 0 := by
  intro z
  exact h (jnK_02 (by omega) (by omega))
theorem bnd_5 : ∀ k, k < 14 → 5 ≤ bnd k → 3 ≤ k ∧ k ≤ 7 := by decide +kernel
section Joins1
variable {p0 : PP} {F n f nw len m nn lv br p base : Nat} {q : Nat → Nat} {ord : Bool} {M : sp_Mem} {Ai : List (Nat × ev_S × Nat)} {v : ev_S}
theorem joins_a (hF : 1000 ≤ F) (h0 : bnd base = 0) (hbr : br ≤ 8) (h : XC M q n f ord nw p0 Ai p len m lv br) (hS : ev_Seg nw (ev_cc (sp_I M 99) len) p len v nn) (hw : WFk base (drp Ai) br) (h8 : sp_I M 96 8 = 0) (hu : 5 ≤ bnd (jnK q n f)) : ∃ M' Ai' len' m', fX2_joins F M = some (1, M') ∧ xfr M M' ∧ drp Ai' = (jnK q n f, (fo (bnd (jnK q n f)) (drp Ai) v).2) :: (fo (bnd (jnK q n f)) (drp Ai) v).1 ∧ XC M' q n (nxt q n f) ord nw p0 Ai' len' len' m' lv br ∧ m' = m + nn := by
  have hk := jnK_lt (q := q) (n := n) (f := f)
  have hk2 := bnd_5 _ hk hu
  have hb6 := bnd_6 (jnK q n f)
  have hne : jnK q n f ≠ 0 := by omega
  obtain ⟨M1, Ai1, p1, len1, m1, n1, e1, e2, e3, e4, e5, e6, e7⟩ := fold_w (b := bnd (jnK q n f)) hF (by omega) (by omega) h hS (Fok_4 (by omega) _ _)
  have hl := WFk_len _ _ hw
  rw [drp_len] at hl
  have hb62 := bnd_6 (tpk (drp Ai))
  have hlen := e7.length_le
  obtain ⟨M2, g1, g2, g3⟩ := jb_c (kk := jnK q n f) (u := bnd (jnK q n f)) hF e3 e4 (by omega) (by omega) (by omega) (jnK_S hne)
  refine ⟨M2, _, len1, m1 + n1, ?_, (e2.mono (by decide) (by decide)).tr g2, ?_, g3, e5⟩
  · unfold fX2_joins
    rw [jstep_c hF h.1 h.2.1, Option.bind_some]
    simp only [sp_do]
    rw [bj_e _ (by omega), if_neg (show ¬ nI (bnd (jnK q n f)) < 5 by rw [show (5 : Int32) = nI 5 from rfl, nIlt (by omega) (by omega)]; omega), h8, if_pos rfl, e1, Option.bind_some, if_neg hne]
    exact g1
  · show (_, _) :: drp Ai1 = _
    rw [e6]
end Joins1
